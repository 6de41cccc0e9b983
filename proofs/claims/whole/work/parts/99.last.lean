theorem ts_last : True := True.intro
