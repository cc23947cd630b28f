theorem am_main : am_Main := sorry
