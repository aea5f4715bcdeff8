/-! The tables agree with the bytes and the words. -/
theorem hk_Ho_init : am_hok am_Pr 0 := ⟨hd_Ho_init, rfl, by decide +kernel⟩
theorem ok_Ho_init : am_ok am_Pr 0 := am_ok_of (N := 92) (d := hd_Ho_init) rfl (fun _ h => am_cond0 h) (by decide +kernel)
theorem hk_Ho_feed : am_hok am_Pr 1 := ⟨hd_Ho_feed, rfl, by decide +kernel⟩
theorem ok_Ho_feed : am_ok am_Pr 1 := am_ok_of (N := 44) (d := hd_Ho_feed) rfl (fun _ h => am_cond0 h) (by decide +kernel)
theorem hk_Ho_send : am_hok am_Pr 2 := ⟨hd_Ho_send, rfl, by decide +kernel⟩
theorem ok_Ho_send : am_ok am_Pr 2 := am_ok_of (N := 120) (d := hd_Ho_send) rfl (fun _ h => am_cond0 h) (by decide +kernel)
theorem hk_Ho_tick : am_hok am_Pr 3 := ⟨hd_Ho_tick, rfl, by decide +kernel⟩
theorem ok_Ho_tick : am_ok am_Pr 3 := am_ok_of (N := 96) (d := hd_Ho_tick) rfl (fun _ h => am_cond0 h) (by decide +kernel)
theorem hk_Ho_fetch : am_hok am_Pr 4 := ⟨hd_Ho_fetch, rfl, by decide +kernel⟩
theorem ok_Ho_fetch : am_ok am_Pr 4 := am_ok_of (N := 8) (d := hd_Ho_fetch) rfl (fun _ h => am_cond0 h) (by decide +kernel)
theorem hk_Ho_charge : am_hok am_Pr 5 := ⟨hd_Ho_charge, rfl, by decide +kernel⟩
theorem ok_Ho_charge : am_ok am_Pr 5 := am_ok_of (N := 23) (d := hd_Ho_charge) rfl (fun _ h => am_cond0 h) (by decide +kernel)
theorem hk_Ho_start : am_hok am_Pr 6 := ⟨hd_Ho_start, rfl, by decide +kernel⟩
theorem ok_Ho_start : am_ok am_Pr 6 := am_ok_of (N := 34) (d := hd_Ho_start) rfl (fun _ h => am_cond0 h) (by decide +kernel)
theorem hk_Ho_position : am_hok am_Pr 7 := ⟨hd_Ho_position, rfl, by decide +kernel⟩
theorem ok_Ho_position : am_ok am_Pr 7 := am_ok_of (N := 52) (d := hd_Ho_position) rfl (fun _ h => am_cond0 h) (by decide +kernel)
theorem hk_Ho_count : am_hok am_Pr 8 := ⟨hd_Ho_count, rfl, by decide +kernel⟩
theorem ok_Ho_count : am_ok am_Pr 8 := am_ok_of (N := 171) (d := hd_Ho_count) rfl (fun _ h => am_cond0 h) (by decide +kernel)
theorem hk_Ho_broken : am_hok am_Pr 9 := ⟨hd_Ho_broken, rfl, by decide +kernel⟩
theorem ok_Ho_broken : am_ok am_Pr 9 := am_ok_of (N := 2) (d := hd_Ho_broken) rfl (fun _ h => am_cond0 h) (by decide +kernel)
theorem hk_Ho_whileUp : am_hok am_Pr 10 := ⟨hd_Ho_whileUp, rfl, by decide +kernel⟩
theorem ok_Ho_whileUp : am_ok am_Pr 10 := am_ok_of (N := 16) (d := hd_Ho_whileUp) rfl (fun _ h => am_cond0 h) (by decide +kernel)
theorem hk_Ho_putOnTape : am_hok am_Pr 11 := ⟨hd_Ho_putOnTape, rfl, by decide +kernel⟩
theorem ok_Ho_putOnTape : am_ok am_Pr 11 := am_ok_of (N := 47) (d := hd_Ho_putOnTape) rfl (fun _ h => am_cond0 h) (by decide +kernel)
theorem hk_Mo_init : am_hok am_Pr 12 := ⟨hd_Mo_init, rfl, by decide +kernel⟩
theorem ok_Mo_init : am_ok am_Pr 12 := am_ok_of (N := 387) (d := hd_Mo_init) rfl (fun _ h => am_cond0 h) (by decide +kernel)
theorem hk_Mo_code : am_hok am_Pr 13 := ⟨hd_Mo_code, rfl, by decide +kernel⟩
theorem ok_Mo_code : am_ok am_Pr 13 := am_ok_of (N := 24) (d := hd_Mo_code) rfl (fun _ h => am_cond0 h) (by decide +kernel)
theorem hk_Mo_push : am_hok am_Pr 14 := ⟨hd_Mo_push, rfl, by decide +kernel⟩
theorem ok_Mo_push : am_ok am_Pr 14 := am_ok_of (N := 37) (d := hd_Mo_push) rfl (fun _ h => am_cond0 h) (by decide +kernel)
theorem hk_Mo_feed : am_hok am_Pr 15 := ⟨hd_Mo_feed, rfl, by decide +kernel⟩
theorem ok_Mo_feed : am_ok am_Pr 15 := am_ok_of (N := 44) (d := hd_Mo_feed) rfl (fun _ h => am_cond0 h) (by decide +kernel)
theorem hk_Mo_put : am_hok am_Pr 16 := ⟨hd_Mo_put, rfl, by decide +kernel⟩
theorem ok_Mo_put : am_ok am_Pr 16 := am_ok_of (N := 35) (d := hd_Mo_put) rfl (fun _ h => am_cond0 h) (by decide +kernel)
theorem hk_Mo_putWord : am_hok am_Pr 17 := ⟨hd_Mo_putWord, rfl, by decide +kernel⟩
theorem ok_Mo_putWord : am_ok am_Pr 17 := am_ok_of (N := 42) (d := hd_Mo_putWord) rfl (fun _ h => am_cond0 h) (by decide +kernel)
theorem hk_Mo_putName : am_hok am_Pr 18 := ⟨hd_Mo_putName, rfl, by decide +kernel⟩
theorem ok_Mo_putName : am_ok am_Pr 18 := am_ok_of (N := 33) (d := hd_Mo_putName) rfl (fun _ h => am_cond0 h) (by decide +kernel)
theorem hk_Mo_putNumber : am_hok am_Pr 19 := ⟨hd_Mo_putNumber, rfl, by decide +kernel⟩
theorem ok_Mo_putNumber : am_ok am_Pr 19 := am_ok_of (N := 90) (d := hd_Mo_putNumber) rfl (fun _ h => am_cond0 h) (by decide +kernel)
theorem hk_Mo_fetch : am_hok am_Pr 20 := ⟨hd_Mo_fetch, rfl, by decide +kernel⟩
theorem ok_Mo_fetch : am_ok am_Pr 20 := am_ok_of (N := 104) (d := hd_Mo_fetch) rfl (fun _ h => am_cond0 h) (by decide +kernel)
theorem hk_Mo_silence : am_hok am_Pr 21 := ⟨hd_Mo_silence, rfl, by decide +kernel⟩
theorem ok_Mo_silence : am_ok am_Pr 21 := am_ok_of (N := 11) (d := hd_Mo_silence) rfl (fun _ h => am_cond0 h) (by decide +kernel)
theorem hk_Mo_isDigit : am_hok am_Pr 22 := ⟨hd_Mo_isDigit, rfl, by decide +kernel⟩
theorem ok_Mo_isDigit : am_ok am_Pr 22 := am_ok_of (N := 18) (d := hd_Mo_isDigit) rfl (fun _ h => am_cond0 h) (by decide +kernel)
theorem hk_Mo_isSign : am_hok am_Pr 23 := ⟨hd_Mo_isSign, rfl, by decide +kernel⟩
theorem ok_Mo_isSign : am_ok am_Pr 23 := am_ok_of (N := 25) (d := hd_Mo_isSign) rfl (fun _ h => am_cond0 h) (by decide +kernel)
theorem hk_Mo_areDigits : am_hok am_Pr 24 := ⟨hd_Mo_areDigits, rfl, by decide +kernel⟩
theorem ok_Mo_areDigits : am_ok am_Pr 24 := am_ok_of (N := 44) (d := hd_Mo_areDigits) rfl (fun _ h => am_cond0 h) (by decide +kernel)
theorem hk_Mo_number : am_hok am_Pr 25 := ⟨hd_Mo_number, rfl, by decide +kernel⟩
theorem ok_Mo_number : am_ok am_Pr 25 := am_ok_of (N := 40) (d := hd_Mo_number) rfl (fun _ h => am_cond0 h) (by decide +kernel)
theorem hk_Mo_packed : am_hok am_Pr 26 := ⟨hd_Mo_packed, rfl, by decide +kernel⟩
theorem ok_Mo_packed : am_ok am_Pr 26 := am_ok_of (N := 35) (d := hd_Mo_packed) rfl (fun _ h => am_cond0 h) (by decide +kernel)
theorem hk_Mo_memberAt : am_hok am_Pr 27 := ⟨hd_Mo_memberAt, rfl, by decide +kernel⟩
theorem ok_Mo_memberAt : am_ok am_Pr 27 := am_ok_of (N := 42) (d := hd_Mo_memberAt) rfl (fun _ h => am_cond0 h) (by decide +kernel)
theorem hk_Mo_assetAt : am_hok am_Pr 28 := ⟨hd_Mo_assetAt, rfl, by decide +kernel⟩
theorem ok_Mo_assetAt : am_ok am_Pr 28 := am_ok_of (N := 42) (d := hd_Mo_assetAt) rfl (fun _ h => am_cond0 h) (by decide +kernel)
theorem hk_Mo_findKind : am_hok am_Pr 29 := ⟨hd_Mo_findKind, rfl, by decide +kernel⟩
theorem ok_Mo_findKind : am_ok am_Pr 29 := am_ok_of (N := 77) (d := hd_Mo_findKind) rfl (fun _ h => am_cond0 h) (by decide +kernel)
theorem hk_Mo_leavesOne : am_hok am_Pr 30 := ⟨hd_Mo_leavesOne, rfl, by decide +kernel⟩
theorem ok_Mo_leavesOne : am_ok am_Pr 30 := am_ok_of (N := 74) (d := hd_Mo_leavesOne) rfl (fun _ h => am_cond0 h) (by decide +kernel)
theorem hk_Mo_isMessage : am_hok am_Pr 31 := ⟨hd_Mo_isMessage, rfl, by decide +kernel⟩
theorem ok_Mo_isMessage : am_ok am_Pr 31 := am_ok_of (N := 211) (d := hd_Mo_isMessage) rfl (fun _ h => am_cond0 h) (by decide +kernel)
theorem hk_Mo_areFields : am_hok am_Pr 32 := ⟨hd_Mo_areFields, rfl, by decide +kernel⟩
theorem ok_Mo_areFields : am_ok am_Pr 32 := am_ok_of (N := 259) (d := hd_Mo_areFields) rfl (fun _ h => am_cond0 h) (by decide +kernel)
theorem hk_Mo_codeFault : am_hok am_Pr 33 := ⟨hd_Mo_codeFault, rfl, by decide +kernel⟩
theorem ok_Mo_codeFault : am_ok am_Pr 33 := am_ok_of (N := 189) (d := hd_Mo_codeFault) rfl (fun _ h => am_cond0 h) (by decide +kernel)
theorem hk_Mo_ofBank : am_hok am_Pr 34 := ⟨hd_Mo_ofBank, rfl, by decide +kernel⟩
theorem ok_Mo_ofBank : am_ok am_Pr 34 := am_ok_of (N := 23) (d := hd_Mo_ofBank) rfl (fun _ h => am_cond0 h) (by decide +kernel)
theorem hk_Mo_isKept : am_hok am_Pr 35 := ⟨hd_Mo_isKept, rfl, by decide +kernel⟩
theorem ok_Mo_isKept : am_ok am_Pr 35 := am_ok_of (N := 24) (d := hd_Mo_isKept) rfl (fun _ h => am_cond0 h) (by decide +kernel)
theorem hk_Mo_textOf : am_hok am_Pr 36 := ⟨hd_Mo_textOf, rfl, by decide +kernel⟩
theorem ok_Mo_textOf : am_ok am_Pr 36 := am_ok_of (N := 46) (d := hd_Mo_textOf) rfl (fun _ h => am_cond0 h) (by decide +kernel)
theorem hk_Mo_isVery : am_hok am_Pr 37 := ⟨hd_Mo_isVery, rfl, by decide +kernel⟩
theorem ok_Mo_isVery : am_ok am_Pr 37 := am_ok_of (N := 67) (d := hd_Mo_isVery) rfl (fun _ h => am_cond0 h) (by decide +kernel)
theorem hk_Mo_phase : am_hok am_Pr 38 := ⟨hd_Mo_phase, rfl, by decide +kernel⟩
theorem ok_Mo_phase : am_ok am_Pr 38 := am_ok_of (N := 57) (d := hd_Mo_phase) rfl (fun _ h => am_cond0 h) (by decide +kernel)
theorem hk_Mo_isTime : am_hok am_Pr 39 := ⟨hd_Mo_isTime, rfl, by decide +kernel⟩
theorem ok_Mo_isTime : am_ok am_Pr 39 := am_ok_of (N := 204) (d := hd_Mo_isTime) rfl (fun _ h => am_cond0 h) (by decide +kernel)
theorem hk_Mo_fault : am_hok am_Pr 40 := ⟨hd_Mo_fault, rfl, by decide +kernel⟩
theorem ok_Mo_fault : am_ok am_Pr 40 := am_ok_of (N := 132) (d := hd_Mo_fault) rfl (fun _ h => am_cond0 h) (by decide +kernel)
theorem hk_Mo_ownFault : am_hok am_Pr 41 := ⟨hd_Mo_ownFault, rfl, by decide +kernel⟩
theorem ok_Mo_ownFault : am_ok am_Pr 41 := am_ok_of (N := 223) (d := hd_Mo_ownFault) rfl (fun _ h => am_cond0 h) (by decide +kernel)
theorem hk_Mo_priceFault : am_hok am_Pr 42 := ⟨hd_Mo_priceFault, rfl, by decide +kernel⟩
theorem ok_Mo_priceFault : am_ok am_Pr 42 := am_ok_of (N := 159) (d := hd_Mo_priceFault) rfl (fun _ h => am_cond0 h) (by decide +kernel)
theorem hk_Mo_isBelow : am_hok am_Pr 43 := ⟨hd_Mo_isBelow, rfl, by decide +kernel⟩
theorem ok_Mo_isBelow : am_ok am_Pr 43 := am_ok_of (N := 37) (d := hd_Mo_isBelow) rfl (fun _ h => am_cond0 h) (by decide +kernel)
theorem hk_Mo_bankFault : am_hok am_Pr 44 := ⟨hd_Mo_bankFault, rfl, by decide +kernel⟩
theorem ok_Mo_bankFault : am_ok am_Pr 44 := am_ok_of (N := 100) (d := hd_Mo_bankFault) rfl (fun _ h => am_cond0 h) (by decide +kernel)
theorem hk_Mo_legsFault : am_hok am_Pr 45 := ⟨hd_Mo_legsFault, rfl, by decide +kernel⟩
theorem ok_Mo_legsFault : am_ok am_Pr 45 := am_ok_of (N := 95) (d := hd_Mo_legsFault) rfl (fun _ h => am_cond0 h) (by decide +kernel)
theorem hk_Mo_confirmFault : am_hok am_Pr 46 := ⟨hd_Mo_confirmFault, rfl, by decide +kernel⟩
theorem ok_Mo_confirmFault : am_ok am_Pr 46 := am_ok_of (N := 97) (d := hd_Mo_confirmFault) rfl (fun _ h => am_cond0 h) (by decide +kernel)
theorem hk_Mo_limitFault : am_hok am_Pr 47 := ⟨hd_Mo_limitFault, rfl, by decide +kernel⟩
theorem ok_Mo_limitFault : am_ok am_Pr 47 := am_ok_of (N := 96) (d := hd_Mo_limitFault) rfl (fun _ h => am_cond0 h) (by decide +kernel)
theorem hk_Mo_pledgeFault : am_hok am_Pr 48 := ⟨hd_Mo_pledgeFault, rfl, by decide +kernel⟩
theorem ok_Mo_pledgeFault : am_ok am_Pr 48 := am_ok_of (N := 202) (d := hd_Mo_pledgeFault) rfl (fun _ h => am_cond0 h) (by decide +kernel)
theorem hk_Mo_worth : am_hok am_Pr 49 := ⟨hd_Mo_worth, rfl, by decide +kernel⟩
theorem ok_Mo_worth : am_ok am_Pr 49 := am_ok_of (N := 111) (d := hd_Mo_worth) rfl (fun _ h => am_cond0 h) (by decide +kernel)
