theorem q_run {n : Int} {M : Mem} (n0 : 0 ≤ n) (n1 : n ≤ 512) (hR : Rl n M) : Gd n (f_L_run M) f_X8_run := by sorry
