/-! constants of the pools -/
set_option maxRecDepth 20000 in
theorem kX7_45 : jx_mem (Cond.constant RX7 45 (100000 : Int32)) := jx_mm2 (jx_tp 238 rfl) rfl
set_option maxRecDepth 20000 in
theorem kX9_273 : jx_mem (Cond.constantDouble RX9 273 (13830554455654793216 : UInt64)) := jx_mm4 (jx_tp 31 rfl) rfl
set_option maxRecDepth 20000 in
theorem kX10_377 : jx_mem (Cond.constantDouble RX10 377 (13830554455654793216 : UInt64)) := jx_mm8 (jx_tp 164 rfl) rfl
