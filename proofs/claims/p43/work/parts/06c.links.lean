/-! LINKS: words of long methods -/
set_option maxRecDepth 100000 in
theorem kw_556 : (Cond.code yL_same cL_same 20 (some .boolean)) ∈ TW := tw_in 556 (by rfl) rfl
set_option maxRecDepth 100000 in
theorem kw_714 : (Cond.code yL_rows cL_rows 21 (some .boolean)) ∈ TW := tw_in 714 (by rfl) rfl
set_option maxRecDepth 100000 in
theorem kw_805 : (Cond.code yL_faults cL_faults 14 (some .boolean)) ∈ TW := tw_in 805 (by rfl) rfl
set_option maxRecDepth 100000 in
theorem kw_1034 : (Cond.code yL_builds cL_builds 15 (some .boolean)) ∈ TW := tw_in 1034 (by rfl) rfl
