def lw_21a : List Cond := [Cond.code yL_barredSet cL_barredSet 5 (some .int), Cond.methodLink RL 199 yL_lays, Cond.static yL_lays, Cond.code yL_lays cL_lays 5 none, Cond.methodLink RL 203 yL_isSo, Cond.static yL_isSo]
def lw_21b : List Cond := [Cond.methodLink RL 140 yL_ladder, Cond.static yL_ladder, Cond.code yL_ladder cL_ladder 6 (some .int), Cond.methodLink RL 151 yX5_meanLadder, Cond.instanceMethod yX5_meanLadder, Cond.selects RX5 yX5_meanLadder yX5_meanLadder, Cond.code yX5_meanLadder cX5_meanLadder 2 (some .float), Cond.fieldLink RX5 223 "BarredRungs$State" "ladderClimbs" "I", Cond.methodLink RL 155 yX5_linkShare, Cond.instanceMethod yX5_linkShare, Cond.selects RX5 yX5_linkShare yX5_linkShare, Cond.code yX5_linkShare cX5_linkShare 2 (some .double), Cond.methodLink RL 159 yL_isClimber, Cond.static yL_isClimber, Cond.code yL_isClimber cL_isClimber 8 (some .boolean), Cond.methodLink RL 163 yX5_safest, Cond.instanceMethod yX5_safest]
theorem lw_21c : Cond.code yL_isSo cL_isSo 14 (some .boolean) ∈ lw_tbl := List.mem_append_right _ (List.mem_append_right _ (List.mem_append_right _ (List.mem_append_left _ (List.mem_of_getElem? (i := 91) rfl))))
set_option maxRecDepth 20000 in
theorem lw_21d : ∀ w ∈ lw_21a, w ∈ lw_tbl := fun w h => (goodIn_p lw_21a [579, 280] (by decide +kernel) (by decide +kernel) w h).1
set_option maxRecDepth 20000 in
theorem lw_21e : ∀ w ∈ lw_21b, w ∈ lw_tbl := fun w h => (goodIn_p lw_21b [585, 655, 659, 662] (by decide +kernel) (by decide +kernel) w h).1
theorem wsL_law_i21 : ∀ w ∈ wsL_law0_r21, w ∈ lw_tbl := fun w h => (List.mem_append.mp (show w ∈ lw_21a ++ (Cond.code yL_isSo cL_isSo 14 (some .boolean) :: lw_21b) from h)).elim (lw_21d w) (fun h => (List.mem_cons.mp h).elim (fun e => e ▸ lw_21c) (lw_21e w))
set_option maxRecDepth 20000 in
theorem wsL_law_i22 : ∀ w ∈ wsL_law0_r22, w ∈ lw_tbl := fun w h => (goodIn_p wsL_law0_r22 [704, 708, 711, 718, 723] (by decide +kernel) (by decide +kernel) w h).1
set_option maxRecDepth 20000 in
theorem wsL_law_i23 : ∀ w ∈ wsL_law0_r23, w ∈ lw_tbl := fun w h => (goodIn_p wsL_law0_r23 [734, 738, 745] (by decide +kernel) (by decide +kernel) w h).1
set_option maxRecDepth 20000 in
theorem wsL_law_i24 : ∀ w ∈ wsL_law0_r24, w ∈ lw_tbl := fun w h => (goodIn_p wsL_law0_r24 [752] (by decide +kernel) (by decide +kernel) w h).1
theorem wsX50_tb : ∀ w ∈ wsX50, w ∈ lw_tbl := by decide +kernel
theorem wsX20_tb : ∀ w ∈ wsX20, w ∈ lw_tbl := by decide +kernel
theorem wsX00_tb : ∀ w ∈ wsX00, w ∈ lw_tbl := by decide +kernel
theorem wsX30_tb : ∀ w ∈ wsX30, w ∈ lw_tbl := by decide +kernel
theorem wsX40_tb : ∀ w ∈ wsX40, w ∈ lw_tbl := by decide +kernel
theorem wsX10_tb : ∀ w ∈ wsX10, w ∈ lw_tbl := by decide +kernel
