theorem pure_main : zPure := sorry
