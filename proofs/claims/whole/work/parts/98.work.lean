theorem lw_work : lw_Work 4000 := sorry
