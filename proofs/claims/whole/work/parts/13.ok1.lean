/-! The tables agree with the bytes and the words. -/
theorem hk_Mo_credit : am_hok am_Pr 50 := ⟨hd_Mo_credit, rfl, by decide +kernel⟩
theorem ok_Mo_credit : am_ok am_Pr 50 := am_ok_of (N := 81) (d := hd_Mo_credit) rfl (fun _ h => am_cond0 h) (by decide +kernel)
theorem hk_Mo_allCredit : am_hok am_Pr 51 := ⟨hd_Mo_allCredit, rfl, by decide +kernel⟩
theorem ok_Mo_allCredit : am_ok am_Pr 51 := am_ok_of (N := 44) (d := hd_Mo_allCredit) rfl (fun _ h => am_cond0 h) (by decide +kernel)
theorem hk_Mo_floor : am_hok am_Pr 52 := ⟨hd_Mo_floor, rfl, by decide +kernel⟩
theorem ok_Mo_floor : am_ok am_Pr 52 := am_ok_of (N := 54) (d := hd_Mo_floor) rfl (fun _ h => am_cond0 h) (by decide +kernel)
theorem hk_Mo_value : am_hok am_Pr 53 := ⟨hd_Mo_value, rfl, by decide +kernel⟩
theorem ok_Mo_value : am_ok am_Pr 53 := am_ok_of (N := 38) (d := hd_Mo_value) rfl (fun _ h => am_cond0 h) (by decide +kernel)
theorem hk_Mo_check : am_hok am_Pr 54 := ⟨hd_Mo_check, rfl, by decide +kernel⟩
theorem ok_Mo_check : am_ok am_Pr 54 := am_ok_of (N := 211) (d := hd_Mo_check) rfl (fun _ h => am_cond0 h) (by decide +kernel)
theorem hk_Mo_openOf : am_hok am_Pr 55 := ⟨hd_Mo_openOf, rfl, by decide +kernel⟩
theorem ok_Mo_openOf : am_ok am_Pr 55 := am_ok_of (N := 46) (d := hd_Mo_openOf) rfl (fun _ h => am_cond0 h) (by decide +kernel)
theorem hk_Mo_net : am_hok am_Pr 56 := ⟨hd_Mo_net, rfl, by decide +kernel⟩
theorem ok_Mo_net : am_ok am_Pr 56 := am_ok_of (N := 205) (d := hd_Mo_net) rfl (fun _ h => am_cond0 h) (by decide +kernel)
theorem hk_Mo_noted : am_hok am_Pr 57 := ⟨hd_Mo_noted, rfl, by decide +kernel⟩
theorem ok_Mo_noted : am_ok am_Pr 57 := am_ok_of (N := 36) (d := hd_Mo_noted) rfl (fun _ h => am_cond0 h) (by decide +kernel)
theorem hk_Mo_places : am_hok am_Pr 58 := ⟨hd_Mo_places, rfl, by decide +kernel⟩
theorem ok_Mo_places : am_ok am_Pr 58 := am_ok_of (N := 184) (d := hd_Mo_places) rfl (fun _ h => am_cond0 h) (by decide +kernel)
theorem hk_Mo_sort : am_hok am_Pr 59 := ⟨hd_Mo_sort, rfl, by decide +kernel⟩
theorem ok_Mo_sort : am_ok am_Pr 59 := am_ok_of (N := 96) (d := hd_Mo_sort) rfl (fun _ h => am_cond0 h) (by decide +kernel)
theorem hk_Mo_isAhead : am_hok am_Pr 60 := ⟨hd_Mo_isAhead, rfl, by decide +kernel⟩
theorem ok_Mo_isAhead : am_ok am_Pr 60 := am_ok_of (N := 60) (d := hd_Mo_isAhead) rfl (fun _ h => am_cond0 h) (by decide +kernel)
theorem hk_Mo_touch : am_hok am_Pr 61 := ⟨hd_Mo_touch, rfl, by decide +kernel⟩
theorem ok_Mo_touch : am_ok am_Pr 61 := am_ok_of (N := 50) (d := hd_Mo_touch) rfl (fun _ h => am_cond0 h) (by decide +kernel)
theorem hk_Mo_untouch : am_hok am_Pr 62 := ⟨hd_Mo_untouch, rfl, by decide +kernel⟩
theorem ok_Mo_untouch : am_ok am_Pr 62 := am_ok_of (N := 46) (d := hd_Mo_untouch) rfl (fun _ h => am_cond0 h) (by decide +kernel)
theorem hk_Mo_touchTaken : am_hok am_Pr 63 := ⟨hd_Mo_touchTaken, rfl, by decide +kernel⟩
theorem ok_Mo_touchTaken : am_ok am_Pr 63 := am_ok_of (N := 46) (d := hd_Mo_touchTaken) rfl (fun _ h => am_cond0 h) (by decide +kernel)
theorem hk_Mo_firstAble : am_hok am_Pr 64 := ⟨hd_Mo_firstAble, rfl, by decide +kernel⟩
theorem ok_Mo_firstAble : am_ok am_Pr 64 := am_ok_of (N := 148) (d := hd_Mo_firstAble) rfl (fun _ h => am_cond0 h) (by decide +kernel)
theorem hk_Mo_move : am_hok am_Pr 65 := ⟨hd_Mo_move, rfl, by decide +kernel⟩
theorem ok_Mo_move : am_ok am_Pr 65 := am_ok_of (N := 60) (d := hd_Mo_move) rfl (fun _ h => am_cond0 h) (by decide +kernel)
theorem hk_Mo_done : am_hok am_Pr 66 := ⟨hd_Mo_done, rfl, by decide +kernel⟩
theorem ok_Mo_done : am_ok am_Pr 66 := am_ok_of (N := 238) (d := hd_Mo_done) rfl (fun _ h => am_cond0 h) (by decide +kernel)
theorem hk_Mo_drop : am_hok am_Pr 67 := ⟨hd_Mo_drop, rfl, by decide +kernel⟩
theorem ok_Mo_drop : am_ok am_Pr 67 := am_ok_of (N := 248) (d := hd_Mo_drop) rfl (fun _ h => am_cond0 h) (by decide +kernel)
theorem hk_Mo_settle : am_hok am_Pr 68 := ⟨hd_Mo_settle, rfl, by decide +kernel⟩
theorem ok_Mo_settle : am_ok am_Pr 68 := am_ok_of (N := 44) (d := hd_Mo_settle) rfl (fun _ h => am_cond0 h) (by decide +kernel)
theorem hk_Mo_close : am_hok am_Pr 69 := ⟨hd_Mo_close, rfl, by decide +kernel⟩
theorem ok_Mo_close : am_ok am_Pr 69 := am_ok_of (N := 102) (d := hd_Mo_close) rfl (fun _ h => am_cond0 h) (by decide +kernel)
theorem hk_Mo_short0 : am_hok am_Pr 70 := ⟨hd_Mo_short0, rfl, by decide +kernel⟩
theorem ok_Mo_short0 : am_ok am_Pr 70 := am_ok_of (N := 173) (d := hd_Mo_short0) rfl (fun _ h => am_cond0 h) (by decide +kernel)
theorem hk_Mo_resolve : am_hok am_Pr 71 := ⟨hd_Mo_resolve, rfl, by decide +kernel⟩
theorem ok_Mo_resolve : am_ok am_Pr 71 := am_ok_of (N := 241) (d := hd_Mo_resolve) rfl (fun _ h => am_cond0 h) (by decide +kernel)
theorem hk_Mo_sendBack : am_hok am_Pr 72 := ⟨hd_Mo_sendBack, rfl, by decide +kernel⟩
theorem ok_Mo_sendBack : am_ok am_Pr 72 := am_ok_of (N := 41) (d := hd_Mo_sendBack) rfl (fun _ h => am_cond0 h) (by decide +kernel)
theorem hk_Mo_endDay : am_hok am_Pr 73 := ⟨hd_Mo_endDay, rfl, by decide +kernel⟩
theorem ok_Mo_endDay : am_ok am_Pr 73 := am_ok_of (N := 66) (d := hd_Mo_endDay) rfl (fun _ h => am_cond0 h) (by decide +kernel)
theorem hk_Mo_keep : am_hok am_Pr 74 := ⟨hd_Mo_keep, rfl, by decide +kernel⟩
theorem ok_Mo_keep : am_ok am_Pr 74 := am_ok_of (N := 90) (d := hd_Mo_keep) rfl (fun _ h => am_cond0 h) (by decide +kernel)
theorem hk_Mo_comes : am_hok am_Pr 75 := ⟨hd_Mo_comes, rfl, by decide +kernel⟩
theorem ok_Mo_comes : am_ok am_Pr 75 := am_ok_of (N := 226) (d := hd_Mo_comes) rfl (fun _ h => am_cond0 h) (by decide +kernel)
theorem hk_Mo_agrees : am_hok am_Pr 76 := ⟨hd_Mo_agrees, rfl, by decide +kernel⟩
theorem ok_Mo_agrees : am_ok am_Pr 76 := am_ok_of (N := 52) (d := hd_Mo_agrees) rfl (fun _ h => am_cond0 h) (by decide +kernel)
theorem hk_Mo_queue : am_hok am_Pr 77 := ⟨hd_Mo_queue, rfl, by decide +kernel⟩
theorem ok_Mo_queue : am_ok am_Pr 77 := am_ok_of (N := 76) (d := hd_Mo_queue) rfl (fun _ h => am_cond0 h) (by decide +kernel)
theorem hk_Mo_does : am_hok am_Pr 78 := ⟨hd_Mo_does, rfl, by decide +kernel⟩
theorem ok_Mo_does : am_ok am_Pr 78 := am_ok_of (N := 536) (d := hd_Mo_does) rfl (fun _ h => am_cond0 h) (by decide +kernel)
theorem hk_Mo_changes : am_hok am_Pr 79 := ⟨hd_Mo_changes, rfl, by decide +kernel⟩
theorem ok_Mo_changes : am_ok am_Pr 79 := am_ok_of (N := 47) (d := hd_Mo_changes) rfl (fun _ h => am_cond0 h) (by decide +kernel)
theorem hk_Mo_statement : am_hok am_Pr 80 := ⟨hd_Mo_statement, rfl, by decide +kernel⟩
theorem ok_Mo_statement : am_ok am_Pr 80 := am_ok_of (N := 160) (d := hd_Mo_statement) rfl (fun _ h => am_cond0 h) (by decide +kernel)
theorem hk_Mo_ends : am_hok am_Pr 81 := ⟨hd_Mo_ends, rfl, by decide +kernel⟩
theorem ok_Mo_ends : am_ok am_Pr 81 := am_ok_of (N := 76) (d := hd_Mo_ends) rfl (fun _ h => am_cond0 h) (by decide +kernel)
theorem hk_Mo_answers : am_hok am_Pr 82 := ⟨hd_Mo_answers, rfl, by decide +kernel⟩
theorem ok_Mo_answers : am_ok am_Pr 82 := am_ok_of (N := 204) (d := hd_Mo_answers) rfl (fun _ h => am_cond0 h) (by decide +kernel)
theorem hk_Mo_send : am_hok am_Pr 83 := ⟨hd_Mo_send, rfl, by decide +kernel⟩
theorem ok_Mo_send : am_ok am_Pr 83 := am_ok_of (N := 192) (d := hd_Mo_send) rfl (fun _ h => am_cond0 h) (by decide +kernel)
theorem hk_Mo_newDay : am_hok am_Pr 84 := ⟨hd_Mo_newDay, rfl, by decide +kernel⟩
theorem ok_Mo_newDay : am_ok am_Pr 84 := am_ok_of (N := 90) (d := hd_Mo_newDay) rfl (fun _ h => am_cond0 h) (by decide +kernel)
theorem hk_Mo_tick : am_hok am_Pr 85 := ⟨hd_Mo_tick, rfl, by decide +kernel⟩
theorem ok_Mo_tick : am_ok am_Pr 85 := am_ok_of (N := 142) (d := hd_Mo_tick) rfl (fun _ h => am_cond0 h) (by decide +kernel)
theorem hk_Mo_goesDown : am_hok am_Pr 86 := ⟨hd_Mo_goesDown, rfl, by decide +kernel⟩
theorem ok_Mo_goesDown : am_ok am_Pr 86 := am_ok_of (N := 16) (d := hd_Mo_goesDown) rfl (fun _ h => am_cond0 h) (by decide +kernel)
theorem hk_Mo_write : am_hok am_Pr 87 := ⟨hd_Mo_write, rfl, by decide +kernel⟩
theorem ok_Mo_write : am_ok am_Pr 87 := am_ok_of (N := 45) (d := hd_Mo_write) rfl (fun _ h => am_cond0 h) (by decide +kernel)
theorem hk_Mo_record : am_hok am_Pr 88 := ⟨hd_Mo_record, rfl, by decide +kernel⟩
theorem ok_Mo_record : am_ok am_Pr 88 := am_ok_of (N := 52) (d := hd_Mo_record) rfl (fun _ h => am_cond0 h) (by decide +kernel)
theorem hk_Mo_snapshot : am_hok am_Pr 89 := ⟨hd_Mo_snapshot, rfl, by decide +kernel⟩
theorem ok_Mo_snapshot : am_ok am_Pr 89 := am_ok_of (N := 118) (d := hd_Mo_snapshot) rfl (fun _ h => am_cond0 h) (by decide +kernel)
theorem hk_Mo_charge : am_hok am_Pr 90 := ⟨hd_Mo_charge, rfl, by decide +kernel⟩
theorem ok_Mo_charge : am_ok am_Pr 90 := am_ok_of (N := 20) (d := hd_Mo_charge) rfl (fun _ h => am_cond0 h) (by decide +kernel)
theorem hk_Mo_start : am_hok am_Pr 91 := ⟨hd_Mo_start, rfl, by decide +kernel⟩
theorem ok_Mo_start : am_ok am_Pr 91 := am_ok_of (N := 25) (d := hd_Mo_start) rfl (fun _ h => am_cond0 h) (by decide +kernel)
theorem hk_Mo_position : am_hok am_Pr 92 := ⟨hd_Mo_position, rfl, by decide +kernel⟩
theorem ok_Mo_position : am_ok am_Pr 92 := am_ok_of (N := 47) (d := hd_Mo_position) rfl (fun _ h => am_cond0 h) (by decide +kernel)
theorem hk_Mo_waiting : am_hok am_Pr 93 := ⟨hd_Mo_waiting, rfl, by decide +kernel⟩
theorem ok_Mo_waiting : am_ok am_Pr 93 := am_ok_of (N := 38) (d := hd_Mo_waiting) rfl (fun _ h => am_cond0 h) (by decide +kernel)
theorem hk_Mo_count : am_hok am_Pr 94 := ⟨hd_Mo_count, rfl, by decide +kernel⟩
theorem ok_Mo_count : am_ok am_Pr 94 := am_ok_of (N := 152) (d := hd_Mo_count) rfl (fun _ h => am_cond0 h) (by decide +kernel)
theorem hk_Mo_broken : am_hok am_Pr 95 := ⟨hd_Mo_broken, rfl, by decide +kernel⟩
theorem ok_Mo_broken : am_ok am_Pr 95 := am_ok_of (N := 5) (d := hd_Mo_broken) rfl (fun _ h => am_cond0 h) (by decide +kernel)
theorem hk_An_init : am_hok am_Pr 96 := ⟨hd_An_init, rfl, by decide +kernel⟩
theorem ok_An_init : am_ok am_Pr 96 := am_ok_of (N := 14) (d := hd_An_init) rfl (fun _ h => am_cond0 h) (by decide +kernel)
theorem hk_An_clear : am_hok am_Pr 97 := ⟨hd_An_clear, rfl, by decide +kernel⟩
theorem ok_An_clear : am_ok am_Pr 97 := am_ok_of (N := 11) (d := hd_An_clear) rfl (fun _ h => am_cond0 h) (by decide +kernel)
theorem hk_An_takeNext : am_hok am_Pr 98 := ⟨hd_An_takeNext, rfl, by decide +kernel⟩
theorem ok_An_takeNext : am_ok am_Pr 98 := am_ok_of (N := 83) (d := hd_An_takeNext) rfl (fun _ h => am_cond0 h) (by decide +kernel)
theorem hk_An_put : am_hok am_Pr 99 := ⟨hd_An_put, rfl, by decide +kernel⟩
theorem ok_An_put : am_ok am_Pr 99 := am_ok_of (N := 32) (d := hd_An_put) rfl (fun _ h => am_cond0 h) (by decide +kernel)
