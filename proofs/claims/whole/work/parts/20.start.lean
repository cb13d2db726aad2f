def tab2 : List Int32 := [0, 0, 3, 0, 1, 1, 0, 3, 6, 2, 2, 0, 3, 4, 5, 3, 1, 2, 9, 1, 0, 1, 2, 3, 7, 2, 1, 5, 3, 1, 1, 4, 1, 0, 0]
def tab3 : List Int32 := [0, 0, 1, 0, 0]
def tab4 : List Int32 := [3, 5, 9, 11, 11]
/-- the memory at the law's entry: the script, the three tables, nothing else -/
def M0 (L : Nat) (xs : Nat → Int32) : Mem := (5, fun a => if a = 1 then (13, L) else if a = 2 then (13, 35) else if a = 3 then (13, 5) else if a = 4 then (13, 5) else (99, 0), fun a j => if a = 1 then xs j else if a = 2 then tab2.getD j 0 else if a = 3 then tab3.getD j 0 else if a = 4 then tab4.getD j 0 else 0, fun _ _ => 0)
