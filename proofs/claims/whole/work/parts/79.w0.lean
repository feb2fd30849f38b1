def st_w0 : Wd := (fun c j => if (c = 1 ∧ (j = 5 ∨ j = 7)) ∨ (c = 30 ∧ (j = 23 ∨ j = 25)) then -1 else 0, fun c j => if c = 30 ∧ j = 7 then -1 else 0)
