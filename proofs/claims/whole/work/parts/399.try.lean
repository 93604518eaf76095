def tryM : Mem := fun i k => if i = 0 then (if k = 13 then 43 else 0) else if i = 11 then ((bytS.getD 0 []).getD k 0) else 0
theorem try_1 : (f_X11_next (upd2 (upd2 (upd2 tryM 0 20 (0)) 0 24 (0)) 0 19 (0))).map (fun r => r 0 22) = some 2 := by decide +kernel
