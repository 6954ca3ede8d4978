/-! what happens by a cell: which call, its arguments -/
def acH (v : Int) : Int := if lowZ v 20 < 11 then 0 else if lowZ v 20 < 14 then 4 else if lowZ v 20 < 16 then 1 else if lowZ v 20 = 16 then 1 else if lowZ v 20 = 17 then 3 else 2
def acK (C v : Int) : Int := if lowZ (shZ v 24) 8 = 0 then lowZ (shZ v 4) 10 - 1 else lowZ (shZ v 4) C
def acR (R v : Int) : Int := if lowZ (shZ v 24) 8 = 0 then lowZ (shZ v 8) 10 - 1 else lowZ (shZ v 8) R
def acA (C v : Int) : Int := if lowZ v 20 < 11 then (if lowZ (shZ v 24) 8 = 0 then lowZ (shZ v 4) 8 - 2 else lowZ (shZ v 4) 4) else if lowZ v 20 < 14 then acK C v else if lowZ v 20 < 16 then (if lowZ (shZ v 24) 8 = 0 then lowZ (shZ v 5) 80 - 5 else 1 + lowZ (shZ v 5) 9) else if lowZ v 20 = 16 then 60 else acK C v
def acB (R v : Int) : Int := if lowZ v 20 < 11 then 0 else if lowZ v 20 < 14 then acR R v else if lowZ v 20 < 16 then 0 else if lowZ v 20 = 16 then 0 else acR R v
