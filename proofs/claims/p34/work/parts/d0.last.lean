theorem g_last_row : True := trivial
