/-! the memory behind the two constructors -/
def z0 : Mem := (fun _ _ => 0, fun _ _ => 0)
def mem0 : Mem := (sI (sI (sI (sI (sI (sI (sI (sI (sI (sI (sI (sI (sI (sI (sI (sI (sI z0 3 0 (nI 4)) 7 11 10) 2 3 (nI 7)) 2 6 (-1)) 66 0 (nI 69)) 66 1 (nI 75)) 66 2 (nI 81)) 66 3 (nI 87)) 66 4 (nI 93)) 66 5 (nI 99)) 66 6 (nI 105)) 124 11 10) 0 12 (nI 124)) 0 13 0) 0 14 0) 1000 3 (-1)) 1000 46 10)
