theorem td_zz : True := True.intro
