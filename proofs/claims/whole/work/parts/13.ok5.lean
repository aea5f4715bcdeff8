/-! The tables agree with the bytes and the words. -/
theorem hk_Arrays_copyOf2 : am_hok am_Pr 252 := ⟨hd_Arrays_copyOf2, rfl, by decide +kernel⟩
theorem ok_Arrays_copyOf2 : am_ok am_Pr 252 := am_ok_of (N := 40) (d := hd_Arrays_copyOf2) rfl (fun _ h => am_cond0 h) (by decide +kernel)
theorem ok_Ma_max : am_ok am_Pr 253 := am_ok_of (N := 11) (d := hd_Ma_max) rfl (fun _ h => am_cond0 h) (by decide +kernel)
