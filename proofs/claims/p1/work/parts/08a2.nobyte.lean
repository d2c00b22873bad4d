/-! no method makes an array of bytes -/
def lx_nb (i : Instr) : Bool := match i with
  | .newarray .byte => false
  | _ => true
theorem xnb_chk : xIl.all (fun l => l.all (fun q => lx_nb q.2)) = true := by decide +kernel
theorem xI_nb {m pc : Nat} {i : Instr} (h : xI m pc = some i) : lx_nb i = true := by
  unfold xI at h
  have hm := lx_fd_mem h
  cases hq : xIl[m]? with
  | none =>
    rw [List.getD_eq_getElem?_getD, hq] at hm
    exact absurd hm List.not_mem_nil
  | some l =>
    rw [List.getD_eq_getElem?_getD, hq] at hm
    exact List.all_eq_true.mp (List.all_eq_true.mp xnb_chk l (List.mem_of_getElem? hq)) (pc, i) hm
