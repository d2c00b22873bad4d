/-! rows of instructions that touch no heap. (Written by gen/gen_sound.py.) -/
theorem lx_w_iadd {g : lx_G} {kc : List va_E} {m : Nat} {p : Program} {l : Launch} {e : Env} {R : Room} {s : State} {mm : MethodId} {args : Array Value} {below : List Frame} {meth : Method} {c : Code} {h0 : Nat × Nat} {Q : State → Prop} {pc : Nat} {L : lx_L} {st : List Value} {h : lx_H} {r : Nat × lx_L × List Value × lx_H}  (X : lx_X g kc m p s mm args meth c) (hd : decode (xB m) pc = .ok (.iadd, 1)) (hs : lx_ii (fun x y => x + y) pc L st h = some r) (K : lx_C g kc m p l e R s mm args below meth c h0 Q r.1 r.2.1 r.2.2.1 r.2.2.2) : lx_C g kc m p l e R s mm args below meth c h0 Q pc L st h := by
  obtain ⟨y, x, t, rfl, rfl⟩ := lx_ii_inv hs
  intro H locs ls hR hS hl
  exact lv_iadd X.1 X.2.1 hd (K H locs ls hR hS hl)
theorem lx_w_isub {g : lx_G} {kc : List va_E} {m : Nat} {p : Program} {l : Launch} {e : Env} {R : Room} {s : State} {mm : MethodId} {args : Array Value} {below : List Frame} {meth : Method} {c : Code} {h0 : Nat × Nat} {Q : State → Prop} {pc : Nat} {L : lx_L} {st : List Value} {h : lx_H} {r : Nat × lx_L × List Value × lx_H}  (X : lx_X g kc m p s mm args meth c) (hd : decode (xB m) pc = .ok (.isub, 1)) (hs : lx_ii (fun x y => x - y) pc L st h = some r) (K : lx_C g kc m p l e R s mm args below meth c h0 Q r.1 r.2.1 r.2.2.1 r.2.2.2) : lx_C g kc m p l e R s mm args below meth c h0 Q pc L st h := by
  obtain ⟨y, x, t, rfl, rfl⟩ := lx_ii_inv hs
  intro H locs ls hR hS hl
  exact lv_isub X.1 X.2.1 hd (K H locs ls hR hS hl)
theorem lx_w_imul {g : lx_G} {kc : List va_E} {m : Nat} {p : Program} {l : Launch} {e : Env} {R : Room} {s : State} {mm : MethodId} {args : Array Value} {below : List Frame} {meth : Method} {c : Code} {h0 : Nat × Nat} {Q : State → Prop} {pc : Nat} {L : lx_L} {st : List Value} {h : lx_H} {r : Nat × lx_L × List Value × lx_H}  (X : lx_X g kc m p s mm args meth c) (hd : decode (xB m) pc = .ok (.imul, 1)) (hs : lx_ii (fun x y => x * y) pc L st h = some r) (K : lx_C g kc m p l e R s mm args below meth c h0 Q r.1 r.2.1 r.2.2.1 r.2.2.2) : lx_C g kc m p l e R s mm args below meth c h0 Q pc L st h := by
  obtain ⟨y, x, t, rfl, rfl⟩ := lx_ii_inv hs
  intro H locs ls hR hS hl
  exact lv_imul X.1 X.2.1 hd (K H locs ls hR hS hl)
theorem lx_w_iand {g : lx_G} {kc : List va_E} {m : Nat} {p : Program} {l : Launch} {e : Env} {R : Room} {s : State} {mm : MethodId} {args : Array Value} {below : List Frame} {meth : Method} {c : Code} {h0 : Nat × Nat} {Q : State → Prop} {pc : Nat} {L : lx_L} {st : List Value} {h : lx_H} {r : Nat × lx_L × List Value × lx_H}  (X : lx_X g kc m p s mm args meth c) (hd : decode (xB m) pc = .ok (.iand, 1)) (hs : lx_ii (fun x y => x &&& y) pc L st h = some r) (K : lx_C g kc m p l e R s mm args below meth c h0 Q r.1 r.2.1 r.2.2.1 r.2.2.2) : lx_C g kc m p l e R s mm args below meth c h0 Q pc L st h := by
  obtain ⟨y, x, t, rfl, rfl⟩ := lx_ii_inv hs
  intro H locs ls hR hS hl
  exact lv_iand X.1 X.2.1 hd (K H locs ls hR hS hl)
theorem lx_w_ior {g : lx_G} {kc : List va_E} {m : Nat} {p : Program} {l : Launch} {e : Env} {R : Room} {s : State} {mm : MethodId} {args : Array Value} {below : List Frame} {meth : Method} {c : Code} {h0 : Nat × Nat} {Q : State → Prop} {pc : Nat} {L : lx_L} {st : List Value} {h : lx_H} {r : Nat × lx_L × List Value × lx_H}  (X : lx_X g kc m p s mm args meth c) (hd : decode (xB m) pc = .ok (.ior, 1)) (hs : lx_ii (fun x y => x ||| y) pc L st h = some r) (K : lx_C g kc m p l e R s mm args below meth c h0 Q r.1 r.2.1 r.2.2.1 r.2.2.2) : lx_C g kc m p l e R s mm args below meth c h0 Q pc L st h := by
  obtain ⟨y, x, t, rfl, rfl⟩ := lx_ii_inv hs
  intro H locs ls hR hS hl
  exact lv_ior X.1 X.2.1 hd (K H locs ls hR hS hl)
theorem lx_w_ixor {g : lx_G} {kc : List va_E} {m : Nat} {p : Program} {l : Launch} {e : Env} {R : Room} {s : State} {mm : MethodId} {args : Array Value} {below : List Frame} {meth : Method} {c : Code} {h0 : Nat × Nat} {Q : State → Prop} {pc : Nat} {L : lx_L} {st : List Value} {h : lx_H} {r : Nat × lx_L × List Value × lx_H}  (X : lx_X g kc m p s mm args meth c) (hd : decode (xB m) pc = .ok (.ixor, 1)) (hs : lx_ii (fun x y => x ^^^ y) pc L st h = some r) (K : lx_C g kc m p l e R s mm args below meth c h0 Q r.1 r.2.1 r.2.2.1 r.2.2.2) : lx_C g kc m p l e R s mm args below meth c h0 Q pc L st h := by
  obtain ⟨y, x, t, rfl, rfl⟩ := lx_ii_inv hs
  intro H locs ls hR hS hl
  exact lv_ixor X.1 X.2.1 hd (K H locs ls hR hS hl)
theorem lx_w_ishl {g : lx_G} {kc : List va_E} {m : Nat} {p : Program} {l : Launch} {e : Env} {R : Room} {s : State} {mm : MethodId} {args : Array Value} {below : List Frame} {meth : Method} {c : Code} {h0 : Nat × Nat} {Q : State → Prop} {pc : Nat} {L : lx_L} {st : List Value} {h : lx_H} {r : Nat × lx_L × List Value × lx_H}  (X : lx_X g kc m p s mm args meth c) (hd : decode (xB m) pc = .ok (.ishl, 1)) (hs : lx_ii (fun x y => x <<< (y &&& 31)) pc L st h = some r) (K : lx_C g kc m p l e R s mm args below meth c h0 Q r.1 r.2.1 r.2.2.1 r.2.2.2) : lx_C g kc m p l e R s mm args below meth c h0 Q pc L st h := by
  obtain ⟨y, x, t, rfl, rfl⟩ := lx_ii_inv hs
  intro H locs ls hR hS hl
  exact lv_ishl X.1 X.2.1 hd (K H locs ls hR hS hl)
theorem lx_w_ishr {g : lx_G} {kc : List va_E} {m : Nat} {p : Program} {l : Launch} {e : Env} {R : Room} {s : State} {mm : MethodId} {args : Array Value} {below : List Frame} {meth : Method} {c : Code} {h0 : Nat × Nat} {Q : State → Prop} {pc : Nat} {L : lx_L} {st : List Value} {h : lx_H} {r : Nat × lx_L × List Value × lx_H}  (X : lx_X g kc m p s mm args meth c) (hd : decode (xB m) pc = .ok (.ishr, 1)) (hs : lx_ii (fun x y => x >>> (y &&& 31)) pc L st h = some r) (K : lx_C g kc m p l e R s mm args below meth c h0 Q r.1 r.2.1 r.2.2.1 r.2.2.2) : lx_C g kc m p l e R s mm args below meth c h0 Q pc L st h := by
  obtain ⟨y, x, t, rfl, rfl⟩ := lx_ii_inv hs
  intro H locs ls hR hS hl
  exact lv_ishr X.1 X.2.1 hd (K H locs ls hR hS hl)
theorem lx_w_iushr {g : lx_G} {kc : List va_E} {m : Nat} {p : Program} {l : Launch} {e : Env} {R : Room} {s : State} {mm : MethodId} {args : Array Value} {below : List Frame} {meth : Method} {c : Code} {h0 : Nat × Nat} {Q : State → Prop} {pc : Nat} {L : lx_L} {st : List Value} {h : lx_H} {r : Nat × lx_L × List Value × lx_H}  (X : lx_X g kc m p s mm args meth c) (hd : decode (xB m) pc = .ok (.iushr, 1)) (hs : lx_ii (fun x y => (x.toUInt32 >>> (y.toUInt32 &&& Int32.toUInt32 31)).toInt32) pc L st h = some r) (K : lx_C g kc m p l e R s mm args below meth c h0 Q r.1 r.2.1 r.2.2.1 r.2.2.2) : lx_C g kc m p l e R s mm args below meth c h0 Q pc L st h := by
  obtain ⟨y, x, t, rfl, rfl⟩ := lx_ii_inv hs
  intro H locs ls hR hS hl
  exact lv_iushr X.1 X.2.1 hd rfl (K H locs ls hR hS hl)
theorem lx_w_idiv {g : lx_G} {kc : List va_E} {m : Nat} {p : Program} {l : Launch} {e : Env} {R : Room} {s : State} {mm : MethodId} {args : Array Value} {below : List Frame} {meth : Method} {c : Code} {h0 : Nat × Nat} {Q : State → Prop} {pc : Nat} {L : lx_L} {st : List Value} {h : lx_H} {r : Nat × lx_L × List Value × lx_H}  (X : lx_X g kc m p s mm args meth c) (hd : decode (xB m) pc = .ok (.idiv, 1)) (hs : lx_iid (fun x y => x / y) pc L st h = some r) (K : lx_C g kc m p l e R s mm args below meth c h0 Q r.1 r.2.1 r.2.2.1 r.2.2.2) : lx_C g kc m p l e R s mm args below meth c h0 Q pc L st h := by
  obtain ⟨y, x, t, rfl, hne, rfl⟩ := lx_iid_inv hs
  intro H locs ls hR hS hl
  exact lv_idiv X.1 X.2.1 hd hne (K H locs ls hR hS hl)
theorem lx_w_irem {g : lx_G} {kc : List va_E} {m : Nat} {p : Program} {l : Launch} {e : Env} {R : Room} {s : State} {mm : MethodId} {args : Array Value} {below : List Frame} {meth : Method} {c : Code} {h0 : Nat × Nat} {Q : State → Prop} {pc : Nat} {L : lx_L} {st : List Value} {h : lx_H} {r : Nat × lx_L × List Value × lx_H}  (X : lx_X g kc m p s mm args meth c) (hd : decode (xB m) pc = .ok (.irem, 1)) (hs : lx_iid (fun x y => x - x / y * y) pc L st h = some r) (K : lx_C g kc m p l e R s mm args below meth c h0 Q r.1 r.2.1 r.2.2.1 r.2.2.2) : lx_C g kc m p l e R s mm args below meth c h0 Q pc L st h := by
  obtain ⟨y, x, t, rfl, hne, rfl⟩ := lx_iid_inv hs
  intro H locs ls hR hS hl
  exact lv_irem X.1 X.2.1 hd hne (K H locs ls hR hS hl)
theorem lx_w_ineg {g : lx_G} {kc : List va_E} {m : Nat} {p : Program} {l : Launch} {e : Env} {R : Room} {s : State} {mm : MethodId} {args : Array Value} {below : List Frame} {meth : Method} {c : Code} {h0 : Nat × Nat} {Q : State → Prop} {pc : Nat} {L : lx_L} {st : List Value} {h : lx_H} {r : Nat × lx_L × List Value × lx_H}  (X : lx_X g kc m p s mm args meth c) (hd : decode (xB m) pc = .ok (.ineg, 1)) (hs : lx_i1 (fun x => -x) pc L st h = some r) (K : lx_C g kc m p l e R s mm args below meth c h0 Q r.1 r.2.1 r.2.2.1 r.2.2.2) : lx_C g kc m p l e R s mm args below meth c h0 Q pc L st h := by
  obtain ⟨x, t, rfl, rfl⟩ := lx_i1_inv hs
  intro H locs ls hR hS hl
  exact lv_ineg X.1 X.2.1 hd (K H locs ls hR hS hl)
theorem lx_w_i2b {g : lx_G} {kc : List va_E} {m : Nat} {p : Program} {l : Launch} {e : Env} {R : Room} {s : State} {mm : MethodId} {args : Array Value} {below : List Frame} {meth : Method} {c : Code} {h0 : Nat × Nat} {Q : State → Prop} {pc : Nat} {L : lx_L} {st : List Value} {h : lx_H} {r : Nat × lx_L × List Value × lx_H}  (X : lx_X g kc m p s mm args meth c) (hd : decode (xB m) pc = .ok (.i2b, 1)) (hs : lx_i1 (fun x => x.toInt8.toInt32) pc L st h = some r) (K : lx_C g kc m p l e R s mm args below meth c h0 Q r.1 r.2.1 r.2.2.1 r.2.2.2) : lx_C g kc m p l e R s mm args below meth c h0 Q pc L st h := by
  obtain ⟨x, t, rfl, rfl⟩ := lx_i1_inv hs
  intro H locs ls hR hS hl
  exact lv_i2b X.1 X.2.1 hd rfl (K H locs ls hR hS hl)
theorem lx_w_i2s {g : lx_G} {kc : List va_E} {m : Nat} {p : Program} {l : Launch} {e : Env} {R : Room} {s : State} {mm : MethodId} {args : Array Value} {below : List Frame} {meth : Method} {c : Code} {h0 : Nat × Nat} {Q : State → Prop} {pc : Nat} {L : lx_L} {st : List Value} {h : lx_H} {r : Nat × lx_L × List Value × lx_H}  (X : lx_X g kc m p s mm args meth c) (hd : decode (xB m) pc = .ok (.i2s, 1)) (hs : lx_i1 (fun x => x.toInt16.toInt32) pc L st h = some r) (K : lx_C g kc m p l e R s mm args below meth c h0 Q r.1 r.2.1 r.2.2.1 r.2.2.2) : lx_C g kc m p l e R s mm args below meth c h0 Q pc L st h := by
  obtain ⟨x, t, rfl, rfl⟩ := lx_i1_inv hs
  intro H locs ls hR hS hl
  exact lv_i2s X.1 X.2.1 hd rfl (K H locs ls hR hS hl)
theorem lx_w_i2c {g : lx_G} {kc : List va_E} {m : Nat} {p : Program} {l : Launch} {e : Env} {R : Room} {s : State} {mm : MethodId} {args : Array Value} {below : List Frame} {meth : Method} {c : Code} {h0 : Nat × Nat} {Q : State → Prop} {pc : Nat} {L : lx_L} {st : List Value} {h : lx_H} {r : Nat × lx_L × List Value × lx_H}  (X : lx_X g kc m p s mm args meth c) (hd : decode (xB m) pc = .ok (.i2c, 1)) (hs : lx_i1 (fun x => (x.toUInt32 % 65536).toInt32) pc L st h = some r) (K : lx_C g kc m p l e R s mm args below meth c h0 Q r.1 r.2.1 r.2.2.1 r.2.2.2) : lx_C g kc m p l e R s mm args below meth c h0 Q pc L st h := by
  obtain ⟨x, t, rfl, rfl⟩ := lx_i1_inv hs
  intro H locs ls hR hS hl
  exact lv_i2c X.1 X.2.1 hd rfl (K H locs ls hR hS hl)
theorem lx_w_ladd {g : lx_G} {kc : List va_E} {m : Nat} {p : Program} {l : Launch} {e : Env} {R : Room} {s : State} {mm : MethodId} {args : Array Value} {below : List Frame} {meth : Method} {c : Code} {h0 : Nat × Nat} {Q : State → Prop} {pc : Nat} {L : lx_L} {st : List Value} {h : lx_H} {r : Nat × lx_L × List Value × lx_H}  (X : lx_X g kc m p s mm args meth c) (hd : decode (xB m) pc = .ok (.ladd, 1)) (hs : lx_ll (fun x y => x + y) pc L st h = some r) (K : lx_C g kc m p l e R s mm args below meth c h0 Q r.1 r.2.1 r.2.2.1 r.2.2.2) : lx_C g kc m p l e R s mm args below meth c h0 Q pc L st h := by
  obtain ⟨y, x, t, rfl, rfl⟩ := lx_ll_inv hs
  intro H locs ls hR hS hl
  exact lv_ladd X.1 X.2.1 hd (K H locs ls hR hS hl)
theorem lx_w_lsub {g : lx_G} {kc : List va_E} {m : Nat} {p : Program} {l : Launch} {e : Env} {R : Room} {s : State} {mm : MethodId} {args : Array Value} {below : List Frame} {meth : Method} {c : Code} {h0 : Nat × Nat} {Q : State → Prop} {pc : Nat} {L : lx_L} {st : List Value} {h : lx_H} {r : Nat × lx_L × List Value × lx_H}  (X : lx_X g kc m p s mm args meth c) (hd : decode (xB m) pc = .ok (.lsub, 1)) (hs : lx_ll (fun x y => x - y) pc L st h = some r) (K : lx_C g kc m p l e R s mm args below meth c h0 Q r.1 r.2.1 r.2.2.1 r.2.2.2) : lx_C g kc m p l e R s mm args below meth c h0 Q pc L st h := by
  obtain ⟨y, x, t, rfl, rfl⟩ := lx_ll_inv hs
  intro H locs ls hR hS hl
  exact lv_lsub X.1 X.2.1 hd (K H locs ls hR hS hl)
theorem lx_w_lmul {g : lx_G} {kc : List va_E} {m : Nat} {p : Program} {l : Launch} {e : Env} {R : Room} {s : State} {mm : MethodId} {args : Array Value} {below : List Frame} {meth : Method} {c : Code} {h0 : Nat × Nat} {Q : State → Prop} {pc : Nat} {L : lx_L} {st : List Value} {h : lx_H} {r : Nat × lx_L × List Value × lx_H}  (X : lx_X g kc m p s mm args meth c) (hd : decode (xB m) pc = .ok (.lmul, 1)) (hs : lx_ll (fun x y => x * y) pc L st h = some r) (K : lx_C g kc m p l e R s mm args below meth c h0 Q r.1 r.2.1 r.2.2.1 r.2.2.2) : lx_C g kc m p l e R s mm args below meth c h0 Q pc L st h := by
  obtain ⟨y, x, t, rfl, rfl⟩ := lx_ll_inv hs
  intro H locs ls hR hS hl
  exact lv_lmul X.1 X.2.1 hd (K H locs ls hR hS hl)
theorem lx_w_land {g : lx_G} {kc : List va_E} {m : Nat} {p : Program} {l : Launch} {e : Env} {R : Room} {s : State} {mm : MethodId} {args : Array Value} {below : List Frame} {meth : Method} {c : Code} {h0 : Nat × Nat} {Q : State → Prop} {pc : Nat} {L : lx_L} {st : List Value} {h : lx_H} {r : Nat × lx_L × List Value × lx_H}  (X : lx_X g kc m p s mm args meth c) (hd : decode (xB m) pc = .ok (.land, 1)) (hs : lx_ll (fun x y => x &&& y) pc L st h = some r) (K : lx_C g kc m p l e R s mm args below meth c h0 Q r.1 r.2.1 r.2.2.1 r.2.2.2) : lx_C g kc m p l e R s mm args below meth c h0 Q pc L st h := by
  obtain ⟨y, x, t, rfl, rfl⟩ := lx_ll_inv hs
  intro H locs ls hR hS hl
  exact lv_land X.1 X.2.1 hd (K H locs ls hR hS hl)
theorem lx_w_lor {g : lx_G} {kc : List va_E} {m : Nat} {p : Program} {l : Launch} {e : Env} {R : Room} {s : State} {mm : MethodId} {args : Array Value} {below : List Frame} {meth : Method} {c : Code} {h0 : Nat × Nat} {Q : State → Prop} {pc : Nat} {L : lx_L} {st : List Value} {h : lx_H} {r : Nat × lx_L × List Value × lx_H}  (X : lx_X g kc m p s mm args meth c) (hd : decode (xB m) pc = .ok (.lor, 1)) (hs : lx_ll (fun x y => x ||| y) pc L st h = some r) (K : lx_C g kc m p l e R s mm args below meth c h0 Q r.1 r.2.1 r.2.2.1 r.2.2.2) : lx_C g kc m p l e R s mm args below meth c h0 Q pc L st h := by
  obtain ⟨y, x, t, rfl, rfl⟩ := lx_ll_inv hs
  intro H locs ls hR hS hl
  exact lv_lor X.1 X.2.1 hd (K H locs ls hR hS hl)
theorem lx_w_lxor {g : lx_G} {kc : List va_E} {m : Nat} {p : Program} {l : Launch} {e : Env} {R : Room} {s : State} {mm : MethodId} {args : Array Value} {below : List Frame} {meth : Method} {c : Code} {h0 : Nat × Nat} {Q : State → Prop} {pc : Nat} {L : lx_L} {st : List Value} {h : lx_H} {r : Nat × lx_L × List Value × lx_H}  (X : lx_X g kc m p s mm args meth c) (hd : decode (xB m) pc = .ok (.lxor, 1)) (hs : lx_ll (fun x y => x ^^^ y) pc L st h = some r) (K : lx_C g kc m p l e R s mm args below meth c h0 Q r.1 r.2.1 r.2.2.1 r.2.2.2) : lx_C g kc m p l e R s mm args below meth c h0 Q pc L st h := by
  obtain ⟨y, x, t, rfl, rfl⟩ := lx_ll_inv hs
  intro H locs ls hR hS hl
  exact lv_lxor X.1 X.2.1 hd (K H locs ls hR hS hl)
theorem lx_w_ldiv {g : lx_G} {kc : List va_E} {m : Nat} {p : Program} {l : Launch} {e : Env} {R : Room} {s : State} {mm : MethodId} {args : Array Value} {below : List Frame} {meth : Method} {c : Code} {h0 : Nat × Nat} {Q : State → Prop} {pc : Nat} {L : lx_L} {st : List Value} {h : lx_H} {r : Nat × lx_L × List Value × lx_H}  (X : lx_X g kc m p s mm args meth c) (hd : decode (xB m) pc = .ok (.ldiv, 1)) (hs : lx_lld (fun x y => x / y) pc L st h = some r) (K : lx_C g kc m p l e R s mm args below meth c h0 Q r.1 r.2.1 r.2.2.1 r.2.2.2) : lx_C g kc m p l e R s mm args below meth c h0 Q pc L st h := by
  obtain ⟨y, x, t, rfl, hne, rfl⟩ := lx_lld_inv hs
  intro H locs ls hR hS hl
  exact lv_ldiv X.1 X.2.1 hd hne (K H locs ls hR hS hl)
theorem lx_w_lrem {g : lx_G} {kc : List va_E} {m : Nat} {p : Program} {l : Launch} {e : Env} {R : Room} {s : State} {mm : MethodId} {args : Array Value} {below : List Frame} {meth : Method} {c : Code} {h0 : Nat × Nat} {Q : State → Prop} {pc : Nat} {L : lx_L} {st : List Value} {h : lx_H} {r : Nat × lx_L × List Value × lx_H}  (X : lx_X g kc m p s mm args meth c) (hd : decode (xB m) pc = .ok (.lrem, 1)) (hs : lx_lld (fun x y => x - x / y * y) pc L st h = some r) (K : lx_C g kc m p l e R s mm args below meth c h0 Q r.1 r.2.1 r.2.2.1 r.2.2.2) : lx_C g kc m p l e R s mm args below meth c h0 Q pc L st h := by
  obtain ⟨y, x, t, rfl, hne, rfl⟩ := lx_lld_inv hs
  intro H locs ls hR hS hl
  exact lv_lrem X.1 X.2.1 hd hne (K H locs ls hR hS hl)
theorem lx_w_lneg {g : lx_G} {kc : List va_E} {m : Nat} {p : Program} {l : Launch} {e : Env} {R : Room} {s : State} {mm : MethodId} {args : Array Value} {below : List Frame} {meth : Method} {c : Code} {h0 : Nat × Nat} {Q : State → Prop} {pc : Nat} {L : lx_L} {st : List Value} {h : lx_H} {r : Nat × lx_L × List Value × lx_H}  (X : lx_X g kc m p s mm args meth c) (hd : decode (xB m) pc = .ok (.lneg, 1)) (hs : lx_l1 (fun x => -x) pc L st h = some r) (K : lx_C g kc m p l e R s mm args below meth c h0 Q r.1 r.2.1 r.2.2.1 r.2.2.2) : lx_C g kc m p l e R s mm args below meth c h0 Q pc L st h := by
  obtain ⟨x, t, rfl, rfl⟩ := lx_l1_inv hs
  intro H locs ls hR hS hl
  exact lv_lneg X.1 X.2.1 hd (K H locs ls hR hS hl)
theorem lx_w_lshl {g : lx_G} {kc : List va_E} {m : Nat} {p : Program} {l : Launch} {e : Env} {R : Room} {s : State} {mm : MethodId} {args : Array Value} {below : List Frame} {meth : Method} {c : Code} {h0 : Nat × Nat} {Q : State → Prop} {pc : Nat} {L : lx_L} {st : List Value} {h : lx_H} {r : Nat × lx_L × List Value × lx_H}  (X : lx_X g kc m p s mm args meth c) (hd : decode (xB m) pc = .ok (.lshl, 1)) (hs : lx_li (fun x y => x <<< (y.toInt64 &&& 63)) pc L st h = some r) (K : lx_C g kc m p l e R s mm args below meth c h0 Q r.1 r.2.1 r.2.2.1 r.2.2.2) : lx_C g kc m p l e R s mm args below meth c h0 Q pc L st h := by
  obtain ⟨y, x, t, rfl, rfl⟩ := lx_li_inv hs
  intro H locs ls hR hS hl
  exact lv_lshl X.1 X.2.1 hd rfl (K H locs ls hR hS hl)
theorem lx_w_lshr {g : lx_G} {kc : List va_E} {m : Nat} {p : Program} {l : Launch} {e : Env} {R : Room} {s : State} {mm : MethodId} {args : Array Value} {below : List Frame} {meth : Method} {c : Code} {h0 : Nat × Nat} {Q : State → Prop} {pc : Nat} {L : lx_L} {st : List Value} {h : lx_H} {r : Nat × lx_L × List Value × lx_H}  (X : lx_X g kc m p s mm args meth c) (hd : decode (xB m) pc = .ok (.lshr, 1)) (hs : lx_li (fun x y => x >>> (y.toInt64 &&& 63)) pc L st h = some r) (K : lx_C g kc m p l e R s mm args below meth c h0 Q r.1 r.2.1 r.2.2.1 r.2.2.2) : lx_C g kc m p l e R s mm args below meth c h0 Q pc L st h := by
  obtain ⟨y, x, t, rfl, rfl⟩ := lx_li_inv hs
  intro H locs ls hR hS hl
  exact lv_lshr X.1 X.2.1 hd rfl (K H locs ls hR hS hl)
theorem lx_w_lushr {g : lx_G} {kc : List va_E} {m : Nat} {p : Program} {l : Launch} {e : Env} {R : Room} {s : State} {mm : MethodId} {args : Array Value} {below : List Frame} {meth : Method} {c : Code} {h0 : Nat × Nat} {Q : State → Prop} {pc : Nat} {L : lx_L} {st : List Value} {h : lx_H} {r : Nat × lx_L × List Value × lx_H}  (X : lx_X g kc m p s mm args meth c) (hd : decode (xB m) pc = .ok (.lushr, 1)) (hs : lx_li (fun x y => (x.toUInt64 >>> (y.toInt64.toUInt64 &&& Int64.toUInt64 63)).toInt64) pc L st h = some r) (K : lx_C g kc m p l e R s mm args below meth c h0 Q r.1 r.2.1 r.2.2.1 r.2.2.2) : lx_C g kc m p l e R s mm args below meth c h0 Q pc L st h := by
  obtain ⟨y, x, t, rfl, rfl⟩ := lx_li_inv hs
  intro H locs ls hR hS hl
  exact lv_lushr X.1 X.2.1 hd rfl (K H locs ls hR hS hl)
theorem lx_w_lcmp {g : lx_G} {kc : List va_E} {m : Nat} {p : Program} {l : Launch} {e : Env} {R : Room} {s : State} {mm : MethodId} {args : Array Value} {below : List Frame} {meth : Method} {c : Code} {h0 : Nat × Nat} {Q : State → Prop} {pc : Nat} {L : lx_L} {st : List Value} {h : lx_H} {r : Nat × lx_L × List Value × lx_H}  (X : lx_X g kc m p s mm args meth c) (hd : decode (xB m) pc = .ok (.lcmp, 1)) (hs : lx_lc pc L st h = some r) (K : lx_C g kc m p l e R s mm args below meth c h0 Q r.1 r.2.1 r.2.2.1 r.2.2.2) : lx_C g kc m p l e R s mm args below meth c h0 Q pc L st h := by
  obtain ⟨y, x, t, rfl, rfl⟩ := lx_lc_inv hs
  intro H locs ls hR hS hl
  exact W.lcmp X.1 X.2.1 hd (K H locs ls hR hS hl)
theorem lx_w_i2l {g : lx_G} {kc : List va_E} {m : Nat} {p : Program} {l : Launch} {e : Env} {R : Room} {s : State} {mm : MethodId} {args : Array Value} {below : List Frame} {meth : Method} {c : Code} {h0 : Nat × Nat} {Q : State → Prop} {pc : Nat} {L : lx_L} {st : List Value} {h : lx_H} {r : Nat × lx_L × List Value × lx_H}  (X : lx_X g kc m p s mm args meth c) (hd : decode (xB m) pc = .ok (.i2l, 1)) (hs : lx_i2 (fun x => x.toInt64) pc L st h = some r) (K : lx_C g kc m p l e R s mm args below meth c h0 Q r.1 r.2.1 r.2.2.1 r.2.2.2) : lx_C g kc m p l e R s mm args below meth c h0 Q pc L st h := by
  obtain ⟨x, t, rfl, rfl⟩ := lx_i2_inv hs
  intro H locs ls hR hS hl
  exact lv_i2l X.1 X.2.1 hd rfl (K H locs ls hR hS hl)
theorem lx_w_l2i {g : lx_G} {kc : List va_E} {m : Nat} {p : Program} {l : Launch} {e : Env} {R : Room} {s : State} {mm : MethodId} {args : Array Value} {below : List Frame} {meth : Method} {c : Code} {h0 : Nat × Nat} {Q : State → Prop} {pc : Nat} {L : lx_L} {st : List Value} {h : lx_H} {r : Nat × lx_L × List Value × lx_H}  (X : lx_X g kc m p s mm args meth c) (hd : decode (xB m) pc = .ok (.l2i, 1)) (hs : lx_l2 pc L st h = some r) (K : lx_C g kc m p l e R s mm args below meth c h0 Q r.1 r.2.1 r.2.2.1 r.2.2.2) : lx_C g kc m p l e R s mm args below meth c h0 Q pc L st h := by
  obtain ⟨x, t, rfl, rfl⟩ := lx_l2_inv hs
  intro H locs ls hR hS hl
  exact lv_l2i X.1 X.2.1 hd rfl (K H locs ls hR hS hl)
theorem lx_w_iconst {g : lx_G} {kc : List va_E} {m : Nat} {p : Program} {l : Launch} {e : Env} {R : Room} {s : State} {mm : MethodId} {args : Array Value} {below : List Frame} {meth : Method} {c : Code} {h0 : Nat × Nat} {Q : State → Prop} {pc : Nat} {L : lx_L} {st : List Value} {h : lx_H} {r : Nat × lx_L × List Value × lx_H} {n : Int} (X : lx_X g kc m p s mm args meth c) (hd : decode (xB m) pc = .ok (.iconst n, 1)) (hs : some (pc + 1, L, .int (Int32.ofInt n) :: st, h) = some r) (K : lx_C g kc m p l e R s mm args below meth c h0 Q r.1 r.2.1 r.2.2.1 r.2.2.2) : lx_C g kc m p l e R s mm args below meth c h0 Q pc L st h := by
  cases hs
  intro H locs ls hR hS hl
  exact lv_iconst X.1 X.2.1 hd rfl (K H locs ls hR hS hl)
theorem lx_w_bipush {g : lx_G} {kc : List va_E} {m : Nat} {p : Program} {l : Launch} {e : Env} {R : Room} {s : State} {mm : MethodId} {args : Array Value} {below : List Frame} {meth : Method} {c : Code} {h0 : Nat × Nat} {Q : State → Prop} {pc : Nat} {L : lx_L} {st : List Value} {h : lx_H} {r : Nat × lx_L × List Value × lx_H} {n : Int} (X : lx_X g kc m p s mm args meth c) (hd : decode (xB m) pc = .ok (.bipush n, 2)) (hs : some (pc + 2, L, .int (Int8.ofInt n).toInt32 :: st, h) = some r) (K : lx_C g kc m p l e R s mm args below meth c h0 Q r.1 r.2.1 r.2.2.1 r.2.2.2) : lx_C g kc m p l e R s mm args below meth c h0 Q pc L st h := by
  cases hs
  intro H locs ls hR hS hl
  exact lv_bipush X.1 X.2.1 hd rfl (K H locs ls hR hS hl)
theorem lx_w_sipush {g : lx_G} {kc : List va_E} {m : Nat} {p : Program} {l : Launch} {e : Env} {R : Room} {s : State} {mm : MethodId} {args : Array Value} {below : List Frame} {meth : Method} {c : Code} {h0 : Nat × Nat} {Q : State → Prop} {pc : Nat} {L : lx_L} {st : List Value} {h : lx_H} {r : Nat × lx_L × List Value × lx_H} {n : Int} (X : lx_X g kc m p s mm args meth c) (hd : decode (xB m) pc = .ok (.sipush n, 3)) (hs : some (pc + 3, L, .int (Int16.ofInt n).toInt32 :: st, h) = some r) (K : lx_C g kc m p l e R s mm args below meth c h0 Q r.1 r.2.1 r.2.2.1 r.2.2.2) : lx_C g kc m p l e R s mm args below meth c h0 Q pc L st h := by
  cases hs
  intro H locs ls hR hS hl
  exact lv_sipush X.1 X.2.1 hd rfl (K H locs ls hR hS hl)
theorem lx_w_lconst {g : lx_G} {kc : List va_E} {m : Nat} {p : Program} {l : Launch} {e : Env} {R : Room} {s : State} {mm : MethodId} {args : Array Value} {below : List Frame} {meth : Method} {c : Code} {h0 : Nat × Nat} {Q : State → Prop} {pc : Nat} {L : lx_L} {st : List Value} {h : lx_H} {r : Nat × lx_L × List Value × lx_H} {n : Fin 2} (X : lx_X g kc m p s mm args meth c) (hd : decode (xB m) pc = .ok (.lconst n, 1)) (hs : some (pc + 1, L, .long (Int64.ofNat (n : Nat)) :: st, h) = some r) (K : lx_C g kc m p l e R s mm args below meth c h0 Q r.1 r.2.1 r.2.2.1 r.2.2.2) : lx_C g kc m p l e R s mm args below meth c h0 Q pc L st h := by
  cases hs
  intro H locs ls hR hS hl
  exact lv_lconst X.1 X.2.1 hd rfl (K H locs ls hR hS hl)
theorem lx_w_aconst_null {g : lx_G} {kc : List va_E} {m : Nat} {p : Program} {l : Launch} {e : Env} {R : Room} {s : State} {mm : MethodId} {args : Array Value} {below : List Frame} {meth : Method} {c : Code} {h0 : Nat × Nat} {Q : State → Prop} {pc : Nat} {L : lx_L} {st : List Value} {h : lx_H} {r : Nat × lx_L × List Value × lx_H}  (X : lx_X g kc m p s mm args meth c) (hd : decode (xB m) pc = .ok (.aconst_null, 1)) (hs : some (pc + 1, L, .null :: st, h) = some r) (K : lx_C g kc m p l e R s mm args below meth c h0 Q r.1 r.2.1 r.2.2.1 r.2.2.2) : lx_C g kc m p l e R s mm args below meth c h0 Q pc L st h := by
  cases hs
  intro H locs ls hR hS hl
  exact lv_null X.1 X.2.1 hd (K H locs ls hR hS hl)
theorem lx_w_iload_n {g : lx_G} {kc : List va_E} {m : Nat} {p : Program} {l : Launch} {e : Env} {R : Room} {s : State} {mm : MethodId} {args : Array Value} {below : List Frame} {meth : Method} {c : Code} {h0 : Nat × Nat} {Q : State → Prop} {pc : Nat} {L : lx_L} {st : List Value} {h : lx_H} {r : Nat × lx_L × List Value × lx_H} {k : Fin 4} (X : lx_X g kc m p s mm args meth c) (hd : decode (xB m) pc = .ok (.iload_n k, 1)) (hs : lx_ldi pc 1 k L st h = some r) (K : lx_C g kc m p l e R s mm args below meth c h0 Q r.1 r.2.1 r.2.2.1 r.2.2.2) : lx_C g kc m p l e R s mm args below meth c h0 Q pc L st h := by
  obtain ⟨x, hx, rfl⟩ := lx_ldi_inv hs
  intro H locs ls hR hS hl
  exact lv_iload_n X.1 X.2.1 hd rfl (lx_tl_get hl hx) (K H locs ls hR hS hl)
theorem lx_w_iload {g : lx_G} {kc : List va_E} {m : Nat} {p : Program} {l : Launch} {e : Env} {R : Room} {s : State} {mm : MethodId} {args : Array Value} {below : List Frame} {meth : Method} {c : Code} {h0 : Nat × Nat} {Q : State → Prop} {pc : Nat} {L : lx_L} {st : List Value} {h : lx_H} {r : Nat × lx_L × List Value × lx_H} {k : Nat} (X : lx_X g kc m p s mm args meth c) (hd : decode (xB m) pc = .ok (.iload k, 2)) (hs : lx_ldi pc 2 k L st h = some r) (K : lx_C g kc m p l e R s mm args below meth c h0 Q r.1 r.2.1 r.2.2.1 r.2.2.2) : lx_C g kc m p l e R s mm args below meth c h0 Q pc L st h := by
  obtain ⟨x, hx, rfl⟩ := lx_ldi_inv hs
  intro H locs ls hR hS hl
  exact lv_iload X.1 X.2.1 hd (lx_tl_get hl hx) (K H locs ls hR hS hl)
theorem lx_w_lload_n {g : lx_G} {kc : List va_E} {m : Nat} {p : Program} {l : Launch} {e : Env} {R : Room} {s : State} {mm : MethodId} {args : Array Value} {below : List Frame} {meth : Method} {c : Code} {h0 : Nat × Nat} {Q : State → Prop} {pc : Nat} {L : lx_L} {st : List Value} {h : lx_H} {r : Nat × lx_L × List Value × lx_H} {k : Fin 4} (X : lx_X g kc m p s mm args meth c) (hd : decode (xB m) pc = .ok (.lload_n k, 1)) (hs : lx_ldl pc 1 k L st h = some r) (K : lx_C g kc m p l e R s mm args below meth c h0 Q r.1 r.2.1 r.2.2.1 r.2.2.2) : lx_C g kc m p l e R s mm args below meth c h0 Q pc L st h := by
  obtain ⟨x, hx, rfl⟩ := lx_ldl_inv hs
  intro H locs ls hR hS hl
  exact lv_lload_n X.1 X.2.1 hd rfl (lx_tl_get hl hx) (K H locs ls hR hS hl)
theorem lx_w_lload {g : lx_G} {kc : List va_E} {m : Nat} {p : Program} {l : Launch} {e : Env} {R : Room} {s : State} {mm : MethodId} {args : Array Value} {below : List Frame} {meth : Method} {c : Code} {h0 : Nat × Nat} {Q : State → Prop} {pc : Nat} {L : lx_L} {st : List Value} {h : lx_H} {r : Nat × lx_L × List Value × lx_H} {k : Nat} (X : lx_X g kc m p s mm args meth c) (hd : decode (xB m) pc = .ok (.lload k, 2)) (hs : lx_ldl pc 2 k L st h = some r) (K : lx_C g kc m p l e R s mm args below meth c h0 Q r.1 r.2.1 r.2.2.1 r.2.2.2) : lx_C g kc m p l e R s mm args below meth c h0 Q pc L st h := by
  obtain ⟨x, hx, rfl⟩ := lx_ldl_inv hs
  intro H locs ls hR hS hl
  exact lv_lload X.1 X.2.1 hd (lx_tl_get hl hx) (K H locs ls hR hS hl)
theorem lx_w_aload_n {g : lx_G} {kc : List va_E} {m : Nat} {p : Program} {l : Launch} {e : Env} {R : Room} {s : State} {mm : MethodId} {args : Array Value} {below : List Frame} {meth : Method} {c : Code} {h0 : Nat × Nat} {Q : State → Prop} {pc : Nat} {L : lx_L} {st : List Value} {h : lx_H} {r : Nat × lx_L × List Value × lx_H} {k : Fin 4} (X : lx_X g kc m p s mm args meth c) (hd : decode (xB m) pc = .ok (.aload_n k, 1)) (hs : lx_lda pc 1 k L st h = some r) (K : lx_C g kc m p l e R s mm args below meth c h0 Q r.1 r.2.1 r.2.2.1 r.2.2.2) : lx_C g kc m p l e R s mm args below meth c h0 Q pc L st h := by
  rcases lx_lda_inv hs with ⟨x, hx, rfl⟩ | ⟨hx, rfl⟩
  · intro H locs ls hR hS hl
    exact lv_aload_n X.1 X.2.1 hd rfl (lx_tl_get hl hx) (K H locs ls hR hS hl)
  · intro H locs ls hR hS hl
    exact lv_aload_nN X.1 X.2.1 hd rfl (lx_tl_get hl hx) (K H locs ls hR hS hl)
theorem lx_w_aload {g : lx_G} {kc : List va_E} {m : Nat} {p : Program} {l : Launch} {e : Env} {R : Room} {s : State} {mm : MethodId} {args : Array Value} {below : List Frame} {meth : Method} {c : Code} {h0 : Nat × Nat} {Q : State → Prop} {pc : Nat} {L : lx_L} {st : List Value} {h : lx_H} {r : Nat × lx_L × List Value × lx_H} {k : Nat} (X : lx_X g kc m p s mm args meth c) (hd : decode (xB m) pc = .ok (.aload k, 2)) (hs : lx_lda pc 2 k L st h = some r) (K : lx_C g kc m p l e R s mm args below meth c h0 Q r.1 r.2.1 r.2.2.1 r.2.2.2) : lx_C g kc m p l e R s mm args below meth c h0 Q pc L st h := by
  rcases lx_lda_inv hs with ⟨x, hx, rfl⟩ | ⟨hx, rfl⟩
  · intro H locs ls hR hS hl
    exact lv_aload X.1 X.2.1 hd (lx_tl_get hl hx) (K H locs ls hR hS hl)
  · intro H locs ls hR hS hl
    exact lv_aloadN X.1 X.2.1 hd (lx_tl_get hl hx) (K H locs ls hR hS hl)
theorem lx_w_istore_n {g : lx_G} {kc : List va_E} {m : Nat} {p : Program} {l : Launch} {e : Env} {R : Room} {s : State} {mm : MethodId} {args : Array Value} {below : List Frame} {meth : Method} {c : Code} {h0 : Nat × Nat} {Q : State → Prop} {pc : Nat} {L : lx_L} {st : List Value} {h : lx_H} {r : Nat × lx_L × List Value × lx_H} {k : Fin 4} (X : lx_X g kc m p s mm args meth c) (hd : decode (xB m) pc = .ok (.istore_n k, 1)) (hs : lx_sti (xM m) pc 1 k L st h = some r) (K : lx_C g kc m p l e R s mm args below meth c h0 Q r.1 r.2.1 r.2.2.1 r.2.2.2) : lx_C g kc m p l e R s mm args below meth c h0 Q pc L st h := by
  obtain ⟨x, t, rfl, hi, rfl⟩ := lx_sti_inv hs
  intro H locs ls hR hS hl
  exact lv_istore_n X.1 X.2.1 hd rfl hl hi (lx_tl_s1 g L k (.int x)) (fun ls hl => K H locs ls hR hS hl)
theorem lx_w_istore {g : lx_G} {kc : List va_E} {m : Nat} {p : Program} {l : Launch} {e : Env} {R : Room} {s : State} {mm : MethodId} {args : Array Value} {below : List Frame} {meth : Method} {c : Code} {h0 : Nat × Nat} {Q : State → Prop} {pc : Nat} {L : lx_L} {st : List Value} {h : lx_H} {r : Nat × lx_L × List Value × lx_H} {k : Nat} (X : lx_X g kc m p s mm args meth c) (hd : decode (xB m) pc = .ok (.istore k, 2)) (hs : lx_sti (xM m) pc 2 k L st h = some r) (K : lx_C g kc m p l e R s mm args below meth c h0 Q r.1 r.2.1 r.2.2.1 r.2.2.2) : lx_C g kc m p l e R s mm args below meth c h0 Q pc L st h := by
  obtain ⟨x, t, rfl, hi, rfl⟩ := lx_sti_inv hs
  intro H locs ls hR hS hl
  exact lv_istore X.1 X.2.1 hd hl hi (lx_tl_s1 g L k (.int x)) (fun ls hl => K H locs ls hR hS hl)
theorem lx_w_lstore_n {g : lx_G} {kc : List va_E} {m : Nat} {p : Program} {l : Launch} {e : Env} {R : Room} {s : State} {mm : MethodId} {args : Array Value} {below : List Frame} {meth : Method} {c : Code} {h0 : Nat × Nat} {Q : State → Prop} {pc : Nat} {L : lx_L} {st : List Value} {h : lx_H} {r : Nat × lx_L × List Value × lx_H} {k : Fin 4} (X : lx_X g kc m p s mm args meth c) (hd : decode (xB m) pc = .ok (.lstore_n k, 1)) (hs : lx_stl (xM m) pc 1 k L st h = some r) (K : lx_C g kc m p l e R s mm args below meth c h0 Q r.1 r.2.1 r.2.2.1 r.2.2.2) : lx_C g kc m p l e R s mm args below meth c h0 Q pc L st h := by
  obtain ⟨x, t, rfl, hi, rfl⟩ := lx_stl_inv hs
  intro H locs ls hR hS hl
  exact lv_lstore_n X.1 X.2.1 hd rfl hl hi (lx_tl_s2 g L k (.long x)) (fun ls hl => K H locs ls hR hS hl)
theorem lx_w_lstore {g : lx_G} {kc : List va_E} {m : Nat} {p : Program} {l : Launch} {e : Env} {R : Room} {s : State} {mm : MethodId} {args : Array Value} {below : List Frame} {meth : Method} {c : Code} {h0 : Nat × Nat} {Q : State → Prop} {pc : Nat} {L : lx_L} {st : List Value} {h : lx_H} {r : Nat × lx_L × List Value × lx_H} {k : Nat} (X : lx_X g kc m p s mm args meth c) (hd : decode (xB m) pc = .ok (.lstore k, 2)) (hs : lx_stl (xM m) pc 2 k L st h = some r) (K : lx_C g kc m p l e R s mm args below meth c h0 Q r.1 r.2.1 r.2.2.1 r.2.2.2) : lx_C g kc m p l e R s mm args below meth c h0 Q pc L st h := by
  obtain ⟨x, t, rfl, hi, rfl⟩ := lx_stl_inv hs
  intro H locs ls hR hS hl
  exact lv_lstore X.1 X.2.1 hd hl hi (lx_tl_s2 g L k (.long x)) (fun ls hl => K H locs ls hR hS hl)
theorem lx_w_astore_n {g : lx_G} {kc : List va_E} {m : Nat} {p : Program} {l : Launch} {e : Env} {R : Room} {s : State} {mm : MethodId} {args : Array Value} {below : List Frame} {meth : Method} {c : Code} {h0 : Nat × Nat} {Q : State → Prop} {pc : Nat} {L : lx_L} {st : List Value} {h : lx_H} {r : Nat × lx_L × List Value × lx_H} {k : Fin 4} (X : lx_X g kc m p s mm args meth c) (hd : decode (xB m) pc = .ok (.astore_n k, 1)) (hs : lx_sta (xM m) pc 1 k L st h = some r) (K : lx_C g kc m p l e R s mm args below meth c h0 Q r.1 r.2.1 r.2.2.1 r.2.2.2) : lx_C g kc m p l e R s mm args below meth c h0 Q pc L st h := by
  rcases lx_sta_inv hs with ⟨x, t, rfl, hi, rfl⟩ | ⟨t, rfl, hi, rfl⟩
  · intro H locs ls hR hS hl
    exact lv_astore_n X.1 X.2.1 hd rfl hl hi (lx_tl_s1 g L k (.ref x)) (fun ls hl => K H locs ls hR hS hl)
  · intro H locs ls hR hS hl
    exact lv_astore_nN X.1 X.2.1 hd rfl hl hi (lx_tl_s1 g L k .null) (fun ls hl => K H locs ls hR hS hl)
theorem lx_w_astore {g : lx_G} {kc : List va_E} {m : Nat} {p : Program} {l : Launch} {e : Env} {R : Room} {s : State} {mm : MethodId} {args : Array Value} {below : List Frame} {meth : Method} {c : Code} {h0 : Nat × Nat} {Q : State → Prop} {pc : Nat} {L : lx_L} {st : List Value} {h : lx_H} {r : Nat × lx_L × List Value × lx_H} {k : Nat} (X : lx_X g kc m p s mm args meth c) (hd : decode (xB m) pc = .ok (.astore k, 2)) (hs : lx_sta (xM m) pc 2 k L st h = some r) (K : lx_C g kc m p l e R s mm args below meth c h0 Q r.1 r.2.1 r.2.2.1 r.2.2.2) : lx_C g kc m p l e R s mm args below meth c h0 Q pc L st h := by
  rcases lx_sta_inv hs with ⟨x, t, rfl, hi, rfl⟩ | ⟨t, rfl, hi, rfl⟩
  · intro H locs ls hR hS hl
    exact lv_astore X.1 X.2.1 hd hl hi (lx_tl_s1 g L k (.ref x)) (fun ls hl => K H locs ls hR hS hl)
  · intro H locs ls hR hS hl
    exact lv_astoreN X.1 X.2.1 hd hl hi (lx_tl_s1 g L k .null) (fun ls hl => K H locs ls hR hS hl)
theorem lx_w_iinc {g : lx_G} {kc : List va_E} {m : Nat} {p : Program} {l : Launch} {e : Env} {R : Room} {s : State} {mm : MethodId} {args : Array Value} {below : List Frame} {meth : Method} {c : Code} {h0 : Nat × Nat} {Q : State → Prop} {pc : Nat} {L : lx_L} {st : List Value} {h : lx_H} {r : Nat × lx_L × List Value × lx_H} {k : Nat} {n : Int} (X : lx_X g kc m p s mm args meth c) (hd : decode (xB m) pc = .ok (.iinc k n, 3)) (hs : lx_inc (xM m) pc k n L st h = some r) (K : lx_C g kc m p l e R s mm args below meth c h0 Q r.1 r.2.1 r.2.2.1 r.2.2.2) : lx_C g kc m p l e R s mm args below meth c h0 Q pc L st h := by
  obtain ⟨x, hx, hi, rfl⟩ := lx_inc_inv hs
  intro H locs ls hR hS hl
  obtain ⟨j, hj⟩ := List.getElem?_of_mem (show (k, Value.int x) ∈ lx_tl g L from List.mem_map.mpr ⟨(k, .int x), lx_lg_mem hx, rfl⟩)
  exact lv_iinc X.1 X.2.1 hd hl hj rfl hi (lx_tl_s1 g L k (.int (x + Int32.ofInt n))) (fun ls hl => K H locs ls hR hS hl)
theorem lx_w_if_eq {g : lx_G} {kc : List va_E} {m : Nat} {p : Program} {l : Launch} {e : Env} {R : Room} {s : State} {mm : MethodId} {args : Array Value} {below : List Frame} {meth : Method} {c : Code} {h0 : Nat × Nat} {Q : State → Prop} {pc : Nat} {L : lx_L} {st : List Value} {h : lx_H} {r : Nat × lx_L × List Value × lx_H} {off : Int} (X : lx_X g kc m p s mm args meth c) (hd : decode (xB m) pc = .ok (.ifCond .eq off, 3)) (hs : lx_if1 (fun x => decide (x = 0)) pc off L st h = some r) (K : lx_C g kc m p l e R s mm args below meth c h0 Q r.1 r.2.1 r.2.2.1 r.2.2.2) : lx_C g kc m p l e R s mm args below meth c h0 Q pc L st h := by
  obtain ⟨x, t, rfl, hs⟩ := lx_if1_inv hs
  intro H locs ls hR hS hl
  obtain ⟨tg, ht, hc⟩ := lx_br_inv hs
  rcases hc with ⟨hb, rfl⟩ | ⟨hb, rfl⟩
  · exact lv_if_eq X.1 X.2.1 hd ht (fun _ => (K H locs ls hR hS hl)) (fun z => absurd (of_decide_eq_true hb) z)
  · exact lv_if_eq X.1 X.2.1 hd ht (fun z => absurd z (of_decide_eq_false hb)) (fun _ => (K H locs ls hR hS hl))
theorem lx_w_icmp_eq {g : lx_G} {kc : List va_E} {m : Nat} {p : Program} {l : Launch} {e : Env} {R : Room} {s : State} {mm : MethodId} {args : Array Value} {below : List Frame} {meth : Method} {c : Code} {h0 : Nat × Nat} {Q : State → Prop} {pc : Nat} {L : lx_L} {st : List Value} {h : lx_H} {r : Nat × lx_L × List Value × lx_H} {off : Int} (X : lx_X g kc m p s mm args meth c) (hd : decode (xB m) pc = .ok (.if_icmp .eq off, 3)) (hs : lx_if2 (fun x y => decide (x = y)) pc off L st h = some r) (K : lx_C g kc m p l e R s mm args below meth c h0 Q r.1 r.2.1 r.2.2.1 r.2.2.2) : lx_C g kc m p l e R s mm args below meth c h0 Q pc L st h := by
  obtain ⟨y, x, t, rfl, hs⟩ := lx_if2_inv hs
  intro H locs ls hR hS hl
  obtain ⟨tg, ht, hc⟩ := lx_br_inv hs
  rcases hc with ⟨hb, rfl⟩ | ⟨hb, rfl⟩
  · exact lv_icmp_eq X.1 X.2.1 hd ht (fun _ => (K H locs ls hR hS hl)) (fun z => absurd (of_decide_eq_true hb) z)
  · exact lv_icmp_eq X.1 X.2.1 hd ht (fun z => absurd z (of_decide_eq_false hb)) (fun _ => (K H locs ls hR hS hl))
theorem lx_w_if_ne {g : lx_G} {kc : List va_E} {m : Nat} {p : Program} {l : Launch} {e : Env} {R : Room} {s : State} {mm : MethodId} {args : Array Value} {below : List Frame} {meth : Method} {c : Code} {h0 : Nat × Nat} {Q : State → Prop} {pc : Nat} {L : lx_L} {st : List Value} {h : lx_H} {r : Nat × lx_L × List Value × lx_H} {off : Int} (X : lx_X g kc m p s mm args meth c) (hd : decode (xB m) pc = .ok (.ifCond .ne off, 3)) (hs : lx_if1 (fun x => !decide (x = 0)) pc off L st h = some r) (K : lx_C g kc m p l e R s mm args below meth c h0 Q r.1 r.2.1 r.2.2.1 r.2.2.2) : lx_C g kc m p l e R s mm args below meth c h0 Q pc L st h := by
  obtain ⟨x, t, rfl, hs⟩ := lx_if1_inv hs
  intro H locs ls hR hS hl
  obtain ⟨tg, ht, hc⟩ := lx_br_inv hs
  rcases hc with ⟨hb, rfl⟩ | ⟨hb, rfl⟩
  · have hb : ¬ _ := of_decide_eq_false (by simpa using hb)
    exact lv_if_ne X.1 X.2.1 hd ht (fun _ => (K H locs ls hR hS hl)) (fun z => absurd z hb)
  · have hb : _ := of_decide_eq_true (by simpa using hb)
    exact lv_if_ne X.1 X.2.1 hd ht (fun z => absurd hb z) (fun _ => (K H locs ls hR hS hl))
theorem lx_w_icmp_ne {g : lx_G} {kc : List va_E} {m : Nat} {p : Program} {l : Launch} {e : Env} {R : Room} {s : State} {mm : MethodId} {args : Array Value} {below : List Frame} {meth : Method} {c : Code} {h0 : Nat × Nat} {Q : State → Prop} {pc : Nat} {L : lx_L} {st : List Value} {h : lx_H} {r : Nat × lx_L × List Value × lx_H} {off : Int} (X : lx_X g kc m p s mm args meth c) (hd : decode (xB m) pc = .ok (.if_icmp .ne off, 3)) (hs : lx_if2 (fun x y => !decide (x = y)) pc off L st h = some r) (K : lx_C g kc m p l e R s mm args below meth c h0 Q r.1 r.2.1 r.2.2.1 r.2.2.2) : lx_C g kc m p l e R s mm args below meth c h0 Q pc L st h := by
  obtain ⟨y, x, t, rfl, hs⟩ := lx_if2_inv hs
  intro H locs ls hR hS hl
  obtain ⟨tg, ht, hc⟩ := lx_br_inv hs
  rcases hc with ⟨hb, rfl⟩ | ⟨hb, rfl⟩
  · have hb : ¬ _ := of_decide_eq_false (by simpa using hb)
    exact lv_icmp_ne X.1 X.2.1 hd ht (fun _ => (K H locs ls hR hS hl)) (fun z => absurd z hb)
  · have hb : _ := of_decide_eq_true (by simpa using hb)
    exact lv_icmp_ne X.1 X.2.1 hd ht (fun z => absurd hb z) (fun _ => (K H locs ls hR hS hl))
theorem lx_w_if_lt {g : lx_G} {kc : List va_E} {m : Nat} {p : Program} {l : Launch} {e : Env} {R : Room} {s : State} {mm : MethodId} {args : Array Value} {below : List Frame} {meth : Method} {c : Code} {h0 : Nat × Nat} {Q : State → Prop} {pc : Nat} {L : lx_L} {st : List Value} {h : lx_H} {r : Nat × lx_L × List Value × lx_H} {off : Int} (X : lx_X g kc m p s mm args meth c) (hd : decode (xB m) pc = .ok (.ifCond .lt off, 3)) (hs : lx_if1 (fun x => decide (x < 0)) pc off L st h = some r) (K : lx_C g kc m p l e R s mm args below meth c h0 Q r.1 r.2.1 r.2.2.1 r.2.2.2) : lx_C g kc m p l e R s mm args below meth c h0 Q pc L st h := by
  obtain ⟨x, t, rfl, hs⟩ := lx_if1_inv hs
  intro H locs ls hR hS hl
  obtain ⟨tg, ht, hc⟩ := lx_br_inv hs
  rcases hc with ⟨hb, rfl⟩ | ⟨hb, rfl⟩
  · exact lv_if_lt X.1 X.2.1 hd ht (fun _ => (K H locs ls hR hS hl)) (fun z => absurd (of_decide_eq_true hb) z)
  · exact lv_if_lt X.1 X.2.1 hd ht (fun z => absurd z (of_decide_eq_false hb)) (fun _ => (K H locs ls hR hS hl))
theorem lx_w_icmp_lt {g : lx_G} {kc : List va_E} {m : Nat} {p : Program} {l : Launch} {e : Env} {R : Room} {s : State} {mm : MethodId} {args : Array Value} {below : List Frame} {meth : Method} {c : Code} {h0 : Nat × Nat} {Q : State → Prop} {pc : Nat} {L : lx_L} {st : List Value} {h : lx_H} {r : Nat × lx_L × List Value × lx_H} {off : Int} (X : lx_X g kc m p s mm args meth c) (hd : decode (xB m) pc = .ok (.if_icmp .lt off, 3)) (hs : lx_if2 (fun x y => decide (x < y)) pc off L st h = some r) (K : lx_C g kc m p l e R s mm args below meth c h0 Q r.1 r.2.1 r.2.2.1 r.2.2.2) : lx_C g kc m p l e R s mm args below meth c h0 Q pc L st h := by
  obtain ⟨y, x, t, rfl, hs⟩ := lx_if2_inv hs
  intro H locs ls hR hS hl
  obtain ⟨tg, ht, hc⟩ := lx_br_inv hs
  rcases hc with ⟨hb, rfl⟩ | ⟨hb, rfl⟩
  · exact lv_icmp_lt X.1 X.2.1 hd ht (fun _ => (K H locs ls hR hS hl)) (fun z => absurd (of_decide_eq_true hb) z)
  · exact lv_icmp_lt X.1 X.2.1 hd ht (fun z => absurd z (of_decide_eq_false hb)) (fun _ => (K H locs ls hR hS hl))
theorem lx_w_if_ge {g : lx_G} {kc : List va_E} {m : Nat} {p : Program} {l : Launch} {e : Env} {R : Room} {s : State} {mm : MethodId} {args : Array Value} {below : List Frame} {meth : Method} {c : Code} {h0 : Nat × Nat} {Q : State → Prop} {pc : Nat} {L : lx_L} {st : List Value} {h : lx_H} {r : Nat × lx_L × List Value × lx_H} {off : Int} (X : lx_X g kc m p s mm args meth c) (hd : decode (xB m) pc = .ok (.ifCond .ge off, 3)) (hs : lx_if1 (fun x => decide (0 ≤ x)) pc off L st h = some r) (K : lx_C g kc m p l e R s mm args below meth c h0 Q r.1 r.2.1 r.2.2.1 r.2.2.2) : lx_C g kc m p l e R s mm args below meth c h0 Q pc L st h := by
  obtain ⟨x, t, rfl, hs⟩ := lx_if1_inv hs
  intro H locs ls hR hS hl
  obtain ⟨tg, ht, hc⟩ := lx_br_inv hs
  rcases hc with ⟨hb, rfl⟩ | ⟨hb, rfl⟩
  · exact lv_if_ge X.1 X.2.1 hd ht (fun _ => (K H locs ls hR hS hl)) (fun z => absurd (of_decide_eq_true hb) z)
  · exact lv_if_ge X.1 X.2.1 hd ht (fun z => absurd z (of_decide_eq_false hb)) (fun _ => (K H locs ls hR hS hl))
theorem lx_w_icmp_ge {g : lx_G} {kc : List va_E} {m : Nat} {p : Program} {l : Launch} {e : Env} {R : Room} {s : State} {mm : MethodId} {args : Array Value} {below : List Frame} {meth : Method} {c : Code} {h0 : Nat × Nat} {Q : State → Prop} {pc : Nat} {L : lx_L} {st : List Value} {h : lx_H} {r : Nat × lx_L × List Value × lx_H} {off : Int} (X : lx_X g kc m p s mm args meth c) (hd : decode (xB m) pc = .ok (.if_icmp .ge off, 3)) (hs : lx_if2 (fun x y => decide (y ≤ x)) pc off L st h = some r) (K : lx_C g kc m p l e R s mm args below meth c h0 Q r.1 r.2.1 r.2.2.1 r.2.2.2) : lx_C g kc m p l e R s mm args below meth c h0 Q pc L st h := by
  obtain ⟨y, x, t, rfl, hs⟩ := lx_if2_inv hs
  intro H locs ls hR hS hl
  obtain ⟨tg, ht, hc⟩ := lx_br_inv hs
  rcases hc with ⟨hb, rfl⟩ | ⟨hb, rfl⟩
  · exact lv_icmp_ge X.1 X.2.1 hd ht (fun _ => (K H locs ls hR hS hl)) (fun z => absurd (of_decide_eq_true hb) z)
  · exact lv_icmp_ge X.1 X.2.1 hd ht (fun z => absurd z (of_decide_eq_false hb)) (fun _ => (K H locs ls hR hS hl))
theorem lx_w_if_gt {g : lx_G} {kc : List va_E} {m : Nat} {p : Program} {l : Launch} {e : Env} {R : Room} {s : State} {mm : MethodId} {args : Array Value} {below : List Frame} {meth : Method} {c : Code} {h0 : Nat × Nat} {Q : State → Prop} {pc : Nat} {L : lx_L} {st : List Value} {h : lx_H} {r : Nat × lx_L × List Value × lx_H} {off : Int} (X : lx_X g kc m p s mm args meth c) (hd : decode (xB m) pc = .ok (.ifCond .gt off, 3)) (hs : lx_if1 (fun x => decide (0 < x)) pc off L st h = some r) (K : lx_C g kc m p l e R s mm args below meth c h0 Q r.1 r.2.1 r.2.2.1 r.2.2.2) : lx_C g kc m p l e R s mm args below meth c h0 Q pc L st h := by
  obtain ⟨x, t, rfl, hs⟩ := lx_if1_inv hs
  intro H locs ls hR hS hl
  obtain ⟨tg, ht, hc⟩ := lx_br_inv hs
  rcases hc with ⟨hb, rfl⟩ | ⟨hb, rfl⟩
  · exact lv_if_gt X.1 X.2.1 hd ht (fun _ => (K H locs ls hR hS hl)) (fun z => absurd (of_decide_eq_true hb) z)
  · exact lv_if_gt X.1 X.2.1 hd ht (fun z => absurd z (of_decide_eq_false hb)) (fun _ => (K H locs ls hR hS hl))
theorem lx_w_icmp_gt {g : lx_G} {kc : List va_E} {m : Nat} {p : Program} {l : Launch} {e : Env} {R : Room} {s : State} {mm : MethodId} {args : Array Value} {below : List Frame} {meth : Method} {c : Code} {h0 : Nat × Nat} {Q : State → Prop} {pc : Nat} {L : lx_L} {st : List Value} {h : lx_H} {r : Nat × lx_L × List Value × lx_H} {off : Int} (X : lx_X g kc m p s mm args meth c) (hd : decode (xB m) pc = .ok (.if_icmp .gt off, 3)) (hs : lx_if2 (fun x y => decide (y < x)) pc off L st h = some r) (K : lx_C g kc m p l e R s mm args below meth c h0 Q r.1 r.2.1 r.2.2.1 r.2.2.2) : lx_C g kc m p l e R s mm args below meth c h0 Q pc L st h := by
  obtain ⟨y, x, t, rfl, hs⟩ := lx_if2_inv hs
  intro H locs ls hR hS hl
  obtain ⟨tg, ht, hc⟩ := lx_br_inv hs
  rcases hc with ⟨hb, rfl⟩ | ⟨hb, rfl⟩
  · exact lv_icmp_gt X.1 X.2.1 hd ht (fun _ => (K H locs ls hR hS hl)) (fun z => absurd (of_decide_eq_true hb) z)
  · exact lv_icmp_gt X.1 X.2.1 hd ht (fun z => absurd z (of_decide_eq_false hb)) (fun _ => (K H locs ls hR hS hl))
theorem lx_w_if_le {g : lx_G} {kc : List va_E} {m : Nat} {p : Program} {l : Launch} {e : Env} {R : Room} {s : State} {mm : MethodId} {args : Array Value} {below : List Frame} {meth : Method} {c : Code} {h0 : Nat × Nat} {Q : State → Prop} {pc : Nat} {L : lx_L} {st : List Value} {h : lx_H} {r : Nat × lx_L × List Value × lx_H} {off : Int} (X : lx_X g kc m p s mm args meth c) (hd : decode (xB m) pc = .ok (.ifCond .le off, 3)) (hs : lx_if1 (fun x => decide (x ≤ 0)) pc off L st h = some r) (K : lx_C g kc m p l e R s mm args below meth c h0 Q r.1 r.2.1 r.2.2.1 r.2.2.2) : lx_C g kc m p l e R s mm args below meth c h0 Q pc L st h := by
  obtain ⟨x, t, rfl, hs⟩ := lx_if1_inv hs
  intro H locs ls hR hS hl
  obtain ⟨tg, ht, hc⟩ := lx_br_inv hs
  rcases hc with ⟨hb, rfl⟩ | ⟨hb, rfl⟩
  · exact lv_if_le X.1 X.2.1 hd ht (fun _ => (K H locs ls hR hS hl)) (fun z => absurd (of_decide_eq_true hb) z)
  · exact lv_if_le X.1 X.2.1 hd ht (fun z => absurd z (of_decide_eq_false hb)) (fun _ => (K H locs ls hR hS hl))
theorem lx_w_icmp_le {g : lx_G} {kc : List va_E} {m : Nat} {p : Program} {l : Launch} {e : Env} {R : Room} {s : State} {mm : MethodId} {args : Array Value} {below : List Frame} {meth : Method} {c : Code} {h0 : Nat × Nat} {Q : State → Prop} {pc : Nat} {L : lx_L} {st : List Value} {h : lx_H} {r : Nat × lx_L × List Value × lx_H} {off : Int} (X : lx_X g kc m p s mm args meth c) (hd : decode (xB m) pc = .ok (.if_icmp .le off, 3)) (hs : lx_if2 (fun x y => decide (x ≤ y)) pc off L st h = some r) (K : lx_C g kc m p l e R s mm args below meth c h0 Q r.1 r.2.1 r.2.2.1 r.2.2.2) : lx_C g kc m p l e R s mm args below meth c h0 Q pc L st h := by
  obtain ⟨y, x, t, rfl, hs⟩ := lx_if2_inv hs
  intro H locs ls hR hS hl
  obtain ⟨tg, ht, hc⟩ := lx_br_inv hs
  rcases hc with ⟨hb, rfl⟩ | ⟨hb, rfl⟩
  · exact lv_icmp_le X.1 X.2.1 hd ht (fun _ => (K H locs ls hR hS hl)) (fun z => absurd (of_decide_eq_true hb) z)
  · exact lv_icmp_le X.1 X.2.1 hd ht (fun z => absurd z (of_decide_eq_false hb)) (fun _ => (K H locs ls hR hS hl))
theorem lx_w_goto {g : lx_G} {kc : List va_E} {m : Nat} {p : Program} {l : Launch} {e : Env} {R : Room} {s : State} {mm : MethodId} {args : Array Value} {below : List Frame} {meth : Method} {c : Code} {h0 : Nat × Nat} {Q : State → Prop} {pc : Nat} {L : lx_L} {st : List Value} {h : lx_H} {r : Nat × lx_L × List Value × lx_H} {off : Int} (X : lx_X g kc m p s mm args meth c) (hd : decode (xB m) pc = .ok (.goto off, 3)) (hs : lx_jmp pc off L st h = some r) (K : lx_C g kc m p l e R s mm args below meth c h0 Q r.1 r.2.1 r.2.2.1 r.2.2.2) : lx_C g kc m p l e R s mm args below meth c h0 Q pc L st h := by
  obtain ⟨tg, ht, rfl⟩ := lx_jmp_inv hs
  intro H locs ls hR hS hl
  exact lv_goto X.1 X.2.1 hd ht (K H locs ls hR hS hl)
theorem lx_w_ifnull {g : lx_G} {kc : List va_E} {m : Nat} {p : Program} {l : Launch} {e : Env} {R : Room} {s : State} {mm : MethodId} {args : Array Value} {below : List Frame} {meth : Method} {c : Code} {h0 : Nat × Nat} {Q : State → Prop} {pc : Nat} {L : lx_L} {st : List Value} {h : lx_H} {r : Nat × lx_L × List Value × lx_H} {off : Int} (X : lx_X g kc m p s mm args meth c) (hd : decode (xB m) pc = .ok (.ifnull off, 3)) (hs : lx_nul true pc off L st h = some r) (K : lx_C g kc m p l e R s mm args below meth c h0 Q r.1 r.2.1 r.2.2.1 r.2.2.2) : lx_C g kc m p l e R s mm args below meth c h0 Q pc L st h := by
  rcases lx_nul_inv hs with ⟨x, t, rfl, hs⟩ | ⟨t, rfl, hs⟩
  · intro H locs ls hR hS hl
    obtain ⟨tg, ht, hc⟩ := lx_br_inv hs
    rcases hc with ⟨hb, rfl⟩ | ⟨hb, rfl⟩
    · cases hb
    · exact lv_ifnull X.1 X.2.1 hd (K H locs ls hR hS hl)
  · intro H locs ls hR hS hl
    obtain ⟨tg, ht, hc⟩ := lx_br_inv hs
    rcases hc with ⟨hb, rfl⟩ | ⟨hb, rfl⟩
    · exact lv_ifnullN X.1 X.2.1 hd ht (K H locs ls hR hS hl)
    · cases hb
theorem lx_w_ifnonnull {g : lx_G} {kc : List va_E} {m : Nat} {p : Program} {l : Launch} {e : Env} {R : Room} {s : State} {mm : MethodId} {args : Array Value} {below : List Frame} {meth : Method} {c : Code} {h0 : Nat × Nat} {Q : State → Prop} {pc : Nat} {L : lx_L} {st : List Value} {h : lx_H} {r : Nat × lx_L × List Value × lx_H} {off : Int} (X : lx_X g kc m p s mm args meth c) (hd : decode (xB m) pc = .ok (.ifnonnull off, 3)) (hs : lx_nul false pc off L st h = some r) (K : lx_C g kc m p l e R s mm args below meth c h0 Q r.1 r.2.1 r.2.2.1 r.2.2.2) : lx_C g kc m p l e R s mm args below meth c h0 Q pc L st h := by
  rcases lx_nul_inv hs with ⟨x, t, rfl, hs⟩ | ⟨t, rfl, hs⟩
  · intro H locs ls hR hS hl
    obtain ⟨tg, ht, hc⟩ := lx_br_inv hs
    rcases hc with ⟨hb, rfl⟩ | ⟨hb, rfl⟩
    · exact lv_ifnonnull X.1 X.2.1 hd ht (K H locs ls hR hS hl)
    · cases hb
  · intro H locs ls hR hS hl
    obtain ⟨tg, ht, hc⟩ := lx_br_inv hs
    rcases hc with ⟨hb, rfl⟩ | ⟨hb, rfl⟩
    · cases hb
    · exact lv_ifnonnullN X.1 X.2.1 hd (K H locs ls hR hS hl)
theorem lx_w_dup {g : lx_G} {kc : List va_E} {m : Nat} {p : Program} {l : Launch} {e : Env} {R : Room} {s : State} {mm : MethodId} {args : Array Value} {below : List Frame} {meth : Method} {c : Code} {h0 : Nat × Nat} {Q : State → Prop} {pc : Nat} {L : lx_L} {st : List Value} {h : lx_H} {r : Nat × lx_L × List Value × lx_H}  (X : lx_X g kc m p s mm args meth c) (hd : decode (xB m) pc = .ok (.dup, 1)) (hs : lx_dup pc L st h = some r) (K : lx_C g kc m p l e R s mm args below meth c h0 Q r.1 r.2.1 r.2.2.1 r.2.2.2) : lx_C g kc m p l e R s mm args below meth c h0 Q pc L st h := by
  obtain ⟨v, t, rfl, hc, rfl⟩ := lx_dup_inv hs
  intro H locs ls hR hS hl
  exact lv_dup X.1 X.2.1 hd ((lx_cat g v).trans hc) (K H locs ls hR hS hl)
theorem lx_w_pop {g : lx_G} {kc : List va_E} {m : Nat} {p : Program} {l : Launch} {e : Env} {R : Room} {s : State} {mm : MethodId} {args : Array Value} {below : List Frame} {meth : Method} {c : Code} {h0 : Nat × Nat} {Q : State → Prop} {pc : Nat} {L : lx_L} {st : List Value} {h : lx_H} {r : Nat × lx_L × List Value × lx_H}  (X : lx_X g kc m p s mm args meth c) (hd : decode (xB m) pc = .ok (.pop, 1)) (hs : lx_pop pc L st h = some r) (K : lx_C g kc m p l e R s mm args below meth c h0 Q r.1 r.2.1 r.2.2.1 r.2.2.2) : lx_C g kc m p l e R s mm args below meth c h0 Q pc L st h := by
  obtain ⟨v, t, rfl, hc, rfl⟩ := lx_pop_inv hs
  intro H locs ls hR hS hl
  exact lv_pop X.1 X.2.1 hd ((lx_cat g v).trans hc) (K H locs ls hR hS hl)
theorem lx_w_pop2 {g : lx_G} {kc : List va_E} {m : Nat} {p : Program} {l : Launch} {e : Env} {R : Room} {s : State} {mm : MethodId} {args : Array Value} {below : List Frame} {meth : Method} {c : Code} {h0 : Nat × Nat} {Q : State → Prop} {pc : Nat} {L : lx_L} {st : List Value} {h : lx_H} {r : Nat × lx_L × List Value × lx_H}  (X : lx_X g kc m p s mm args meth c) (hd : decode (xB m) pc = .ok (.pop2, 1)) (hs : lx_pop2 pc L st h = some r) (K : lx_C g kc m p l e R s mm args below meth c h0 Q r.1 r.2.1 r.2.2.1 r.2.2.2) : lx_C g kc m p l e R s mm args below meth c h0 Q pc L st h := by
  obtain ⟨v, t, rfl, hc, rfl⟩ := lx_pop2_inv hs
  intro H locs ls hR hS hl
  exact lv_pop2_2 X.1 X.2.1 hd ((lx_cat g v).trans hc) (K H locs ls hR hS hl)
theorem lx_w_dup_x1 {g : lx_G} {kc : List va_E} {m : Nat} {p : Program} {l : Launch} {e : Env} {R : Room} {s : State} {mm : MethodId} {args : Array Value} {below : List Frame} {meth : Method} {c : Code} {h0 : Nat × Nat} {Q : State → Prop} {pc : Nat} {L : lx_L} {st : List Value} {h : lx_H} {r : Nat × lx_L × List Value × lx_H}  (X : lx_X g kc m p s mm args meth c) (hd : decode (xB m) pc = .ok (.dup_x1, 1)) (hs : lx_dupx1 pc L st h = some r) (K : lx_C g kc m p l e R s mm args below meth c h0 Q r.1 r.2.1 r.2.2.1 r.2.2.2) : lx_C g kc m p l e R s mm args below meth c h0 Q pc L st h := by
  obtain ⟨v, w, t, rfl, hc, hc2, rfl⟩ := lx_dupx1_inv hs
  intro H locs ls hR hS hl
  exact lv_dup_x1 X.1 X.2.1 hd ((lx_cat g v).trans hc) ((lx_cat g w).trans hc2) (K H locs ls hR hS hl)
theorem lx_w_dup_x2 {g : lx_G} {kc : List va_E} {m : Nat} {p : Program} {l : Launch} {e : Env} {R : Room} {s : State} {mm : MethodId} {args : Array Value} {below : List Frame} {meth : Method} {c : Code} {h0 : Nat × Nat} {Q : State → Prop} {pc : Nat} {L : lx_L} {st : List Value} {h : lx_H} {r : Nat × lx_L × List Value × lx_H}  (X : lx_X g kc m p s mm args meth c) (hd : decode (xB m) pc = .ok (.dup_x2, 1)) (hs : lx_dupx2 pc L st h = some r) (K : lx_C g kc m p l e R s mm args below meth c h0 Q r.1 r.2.1 r.2.2.1 r.2.2.2) : lx_C g kc m p l e R s mm args below meth c h0 Q pc L st h := by
  obtain ⟨v, w, u, t, rfl, hc, hc2, hc3, rfl⟩ := lx_dupx2_inv hs
  intro H locs ls hR hS hl
  exact lv_dup_x2 X.1 X.2.1 hd ((lx_cat g v).trans hc) ((lx_cat g w).trans hc2) ((lx_cat g u).trans hc3) (K H locs ls hR hS hl)
theorem lx_w_dup2 {g : lx_G} {kc : List va_E} {m : Nat} {p : Program} {l : Launch} {e : Env} {R : Room} {s : State} {mm : MethodId} {args : Array Value} {below : List Frame} {meth : Method} {c : Code} {h0 : Nat × Nat} {Q : State → Prop} {pc : Nat} {L : lx_L} {st : List Value} {h : lx_H} {r : Nat × lx_L × List Value × lx_H}  (X : lx_X g kc m p s mm args meth c) (hd : decode (xB m) pc = .ok (.dup2, 1)) (hs : lx_dup2 pc L st h = some r) (K : lx_C g kc m p l e R s mm args below meth c h0 Q r.1 r.2.1 r.2.2.1 r.2.2.2) : lx_C g kc m p l e R s mm args below meth c h0 Q pc L st h := by
  obtain ⟨v, t, rfl, hc⟩ := lx_dup2_inv hs
  intro H locs ls hR hS hl
  rcases hc with ⟨hc, rfl⟩ | hs
  · exact lv_dup2_2 X.1 X.2.1 hd ((lx_cat g v).trans hc) (K H locs ls hR hS hl)
  · obtain ⟨w, t, rfl, hc, hc2, rfl⟩ := lx_dup2a_inv hs
    exact lv_dup2_11 X.1 X.2.1 hd ((lx_cat g v).trans hc) ((lx_cat g w).trans hc2) (K H locs ls hR hS hl)
