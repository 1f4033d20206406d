def lan0 (v : Int32) : Nat → Int32 := upd (upd (upd (upd (fun _ => 0) 0 v) 1 v) 2 v) 3 v
def M0 : Mm := (fun _ => 0, fun _ => 0, fun k => if k = 8 then lan0 (-1) else if k = 33 then lan0 (-9) else fun _ => 0, fun _ _ => 0)
