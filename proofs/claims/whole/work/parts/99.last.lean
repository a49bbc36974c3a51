theorem jLast : True := True.intro
