set_option maxRecDepth 100000 in
set_option maxHeartbeats 4000000 in
theorem kc_L_writes : Cond.code yL_writes cL_writes 20 (some .boolean) ∈ BIG := big_at 592 rfl (by decide +kernel)
set_option maxRecDepth 100000 in
set_option maxHeartbeats 4000000 in
theorem kc_L_settings : Cond.code yL_settings cL_settings 14 (some .boolean) ∈ BIG := big_at 787 rfl (by decide +kernel)
set_option maxRecDepth 100000 in
set_option maxHeartbeats 4000000 in
theorem kc_L_drafts : Cond.code yL_drafts cL_drafts 9 (some .boolean) ∈ BIG := big_at 838 rfl (by decide +kernel)
set_option maxRecDepth 100000 in
set_option maxHeartbeats 4000000 in
theorem kc_L_asks : Cond.code yL_asks cL_asks 24 (some .boolean) ∈ BIG := big_at 902 rfl (by decide +kernel)
