/-! code words of the tables (by gen/emit_tables.py) -/
theorem xcd_400 : xat 12058 (.code (xY 400) (xB 400) (xM 400) (xR 400)) = true := by decide +kernel
theorem xcd_401 : xat 12061 (.code (xY 401) (xB 401) (xM 401) (xR 401)) = true := by decide +kernel
theorem xcd_402 : xat 12065 (.code (xY 402) (xB 402) (xM 402) (xR 402)) = true := by decide +kernel
theorem xcd_403 : xat 12069 (.code (xY 403) (xB 403) (xM 403) (xR 403)) = true := by decide +kernel
theorem xcd_404 : xat 12073 (.code (xY 404) (xB 404) (xM 404) (xR 404)) = true := by decide +kernel
theorem xcd_405 : xat 12077 (.code (xY 405) (xB 405) (xM 405) (xR 405)) = true := by decide +kernel
theorem xcd_406 : xat 12081 (.code (xY 406) (xB 406) (xM 406) (xR 406)) = true := by decide +kernel
theorem xcd_407 : xat 12087 (.code (xY 407) (xB 407) (xM 407) (xR 407)) = true := by decide +kernel
theorem xcd_408 : xat 12091 (.code (xY 408) (xB 408) (xM 408) (xR 408)) = true := by decide +kernel
theorem xcd_409 : xat 12095 (.code (xY 409) (xB 409) (xM 409) (xR 409)) = true := by decide +kernel
theorem xcd_410 : xat 12099 (.code (xY 410) (xB 410) (xM 410) (xR 410)) = true := by decide +kernel
theorem xcd_411 : xat 12103 (.code (xY 411) (xB 411) (xM 411) (xR 411)) = true := by decide +kernel
theorem xcd_412 : xat 12107 (.code (xY 412) (xB 412) (xM 412) (xR 412)) = true := by decide +kernel
theorem xcd_413 : xat 12111 (.code (xY 413) (xB 413) (xM 413) (xR 413)) = true := by decide +kernel
theorem xcd_414 : xat 12115 (.code (xY 414) (xB 414) (xM 414) (xR 414)) = true := by decide +kernel
theorem xcd_415 : xat 12119 (.code (xY 415) (xB 415) (xM 415) (xR 415)) = true := by decide +kernel
theorem xcd_416 : xat 12123 (.code (xY 416) (xB 416) (xM 416) (xR 416)) = true := by decide +kernel
theorem xcd_417 : xat 12127 (.code (xY 417) (xB 417) (xM 417) (xR 417)) = true := by decide +kernel
theorem xcd_418 : xat 12131 (.code (xY 418) (xB 418) (xM 418) (xR 418)) = true := by decide +kernel
theorem xcd_419 : xat 12135 (.code (xY 419) (xB 419) (xM 419) (xR 419)) = true := by decide +kernel
theorem xcd_420 : xat 12139 (.code (xY 420) (xB 420) (xM 420) (xR 420)) = true := by decide +kernel
theorem xcd_421 : xat 12143 (.code (xY 421) (xB 421) (xM 421) (xR 421)) = true := by decide +kernel
theorem xcd_422 : xat 12147 (.code (xY 422) (xB 422) (xM 422) (xR 422)) = true := by decide +kernel
theorem xcd_423 : xat 12151 (.code (xY 423) (xB 423) (xM 423) (xR 423)) = true := by decide +kernel
theorem xcd_424 : xat 12155 (.code (xY 424) (xB 424) (xM 424) (xR 424)) = true := by decide +kernel
theorem xcd_425 : xat 12159 (.code (xY 425) (xB 425) (xM 425) (xR 425)) = true := by decide +kernel
theorem xcds_10 : ∀ k ∈ ([400, 401, 402, 403, 404, 405, 406, 407, 408, 409, 410, 411, 412, 413, 414, 415, 416, 417, 418, 419, 420, 421, 422, 423, 424, 425] : List Nat), Cond.code (xY k) (xB k) (xM k) (xR k) ∈ xTS := List.forall_mem_cons.mpr ⟨xat_ok xcd_400, List.forall_mem_cons.mpr ⟨xat_ok xcd_401, List.forall_mem_cons.mpr ⟨xat_ok xcd_402, List.forall_mem_cons.mpr ⟨xat_ok xcd_403, List.forall_mem_cons.mpr ⟨xat_ok xcd_404, List.forall_mem_cons.mpr ⟨xat_ok xcd_405, List.forall_mem_cons.mpr ⟨xat_ok xcd_406, List.forall_mem_cons.mpr ⟨xat_ok xcd_407, List.forall_mem_cons.mpr ⟨xat_ok xcd_408, List.forall_mem_cons.mpr ⟨xat_ok xcd_409, List.forall_mem_cons.mpr ⟨xat_ok xcd_410, List.forall_mem_cons.mpr ⟨xat_ok xcd_411, List.forall_mem_cons.mpr ⟨xat_ok xcd_412, List.forall_mem_cons.mpr ⟨xat_ok xcd_413, List.forall_mem_cons.mpr ⟨xat_ok xcd_414, List.forall_mem_cons.mpr ⟨xat_ok xcd_415, List.forall_mem_cons.mpr ⟨xat_ok xcd_416, List.forall_mem_cons.mpr ⟨xat_ok xcd_417, List.forall_mem_cons.mpr ⟨xat_ok xcd_418, List.forall_mem_cons.mpr ⟨xat_ok xcd_419, List.forall_mem_cons.mpr ⟨xat_ok xcd_420, List.forall_mem_cons.mpr ⟨xat_ok xcd_421, List.forall_mem_cons.mpr ⟨xat_ok xcd_422, List.forall_mem_cons.mpr ⟨xat_ok xcd_423, List.forall_mem_cons.mpr ⟨xat_ok xcd_424, List.forall_mem_cons.mpr ⟨xat_ok xcd_425, fun _ h => absurd h List.not_mem_nil⟩⟩⟩⟩⟩⟩⟩⟩⟩⟩⟩⟩⟩⟩⟩⟩⟩⟩⟩⟩⟩⟩⟩⟩⟩⟩
