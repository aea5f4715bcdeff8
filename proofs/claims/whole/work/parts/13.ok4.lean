/-! The tables agree with the bytes and the words. -/
theorem hk_Me_readCode : am_hok am_Pr 200 := ⟨hd_Me_readCode, rfl, by decide +kernel⟩
theorem ok_Me_readCode : am_ok am_Pr 200 := am_ok_of (N := 69) (d := hd_Me_readCode) rfl (fun _ h => am_cond0 h) (by decide +kernel)
theorem hk_Me_isDigit : am_hok am_Pr 201 := ⟨hd_Me_isDigit, rfl, by decide +kernel⟩
theorem ok_Me_isDigit : am_ok am_Pr 201 := am_ok_of (N := 18) (d := hd_Me_isDigit) rfl (fun _ h => am_cond0 h) (by decide +kernel)
theorem hk_Me_valueOf : am_hok am_Pr 202 := ⟨hd_Me_valueOf, rfl, by decide +kernel⟩
theorem ok_Me_valueOf : am_ok am_Pr 202 := am_ok_of (N := 21) (d := hd_Me_valueOf) rfl (fun _ h => am_cond0 h) (by decide +kernel)
theorem hk_Pa_init : am_hok am_Pr 203 := ⟨hd_Pa_init, rfl, by decide +kernel⟩
theorem ok_Pa_init : am_ok am_Pr 203 := am_ok_of (N := 35) (d := hd_Pa_init) rfl (fun _ h => am_cond0 h) (by decide +kernel)
theorem hk_Po_init : am_hok am_Pr 204 := ⟨hd_Po_init, rfl, by decide +kernel⟩
theorem ok_Po_init : am_ok am_Pr 204 := am_ok_of (N := 10) (d := hd_Po_init) rfl (fun _ h => am_cond0 h) (by decide +kernel)
theorem hk_Po_moveBy : am_hok am_Pr 205 := ⟨hd_Po_moveBy, rfl, by decide +kernel⟩
theorem ok_Po_moveBy : am_ok am_Pr 205 := am_ok_of (N := 57) (d := hd_Po_moveBy) rfl (fun _ h => am_cond0 h) (by decide +kernel)
theorem hk_Po_canMoveBy : am_hok am_Pr 206 := ⟨hd_Po_canMoveBy, rfl, by decide +kernel⟩
theorem ok_Po_canMoveBy : am_ok am_Pr 206 := am_ok_of (N := 27) (d := hd_Po_canMoveBy) rfl (fun _ h => am_cond0 h) (by decide +kernel)
theorem hk_Po_beginDay : am_hok am_Pr 207 := ⟨hd_Po_beginDay, rfl, by decide +kernel⟩
theorem ok_Po_beginDay : am_ok am_Pr 207 := am_ok_of (N := 24) (d := hd_Po_beginDay) rfl (fun _ h => am_cond0 h) (by decide +kernel)
theorem hk_Qu_init : am_hok am_Pr 208 := ⟨hd_Qu_init, rfl, by decide +kernel⟩
theorem ok_Qu_init : am_ok am_Pr 208 := am_ok_of (N := 35) (d := hd_Qu_init) rfl (fun _ h => am_cond0 h) (by decide +kernel)
theorem hk_Qu_isFull : am_hok am_Pr 209 := ⟨hd_Qu_isFull, rfl, by decide +kernel⟩
theorem ok_Qu_isFull : am_ok am_Pr 209 := am_ok_of (N := 21) (d := hd_Qu_isFull) rfl (fun _ h => am_cond0 h) (by decide +kernel)
theorem hk_Qu_find : am_hok am_Pr 210 := ⟨hd_Qu_find, rfl, by decide +kernel⟩
theorem ok_Qu_find : am_ok am_Pr 210 := am_ok_of (N := 39) (d := hd_Qu_find) rfl (fun _ h => am_cond0 h) (by decide +kernel)
theorem hk_Qu_findIn : am_hok am_Pr 211 := ⟨hd_Qu_findIn, rfl, by decide +kernel⟩
theorem ok_Qu_findIn : am_ok am_Pr 211 := am_ok_of (N := 45) (d := hd_Qu_findIn) rfl (fun _ h => am_cond0 h) (by decide +kernel)
theorem hk_Qu_come : am_hok am_Pr 212 := ⟨hd_Qu_come, rfl, by decide +kernel⟩
theorem ok_Qu_come : am_ok am_Pr 212 := am_ok_of (N := 106) (d := hd_Qu_come) rfl (fun _ h => am_cond0 h) (by decide +kernel)
theorem hk_Qu_leave : am_hok am_Pr 213 := ⟨hd_Qu_leave, rfl, by decide +kernel⟩
theorem ok_Qu_leave : am_ok am_Pr 213 := am_ok_of (N := 56) (d := hd_Qu_leave) rfl (fun _ h => am_cond0 h) (by decide +kernel)
theorem hk_Qu_takeOut : am_hok am_Pr 214 := ⟨hd_Qu_takeOut, rfl, by decide +kernel⟩
theorem ok_Qu_takeOut : am_ok am_Pr 214 := am_ok_of (N := 37) (d := hd_Qu_takeOut) rfl (fun _ h => am_cond0 h) (by decide +kernel)
theorem hk_Qu_settleAllThatCan : am_hok am_Pr 215 := ⟨hd_Qu_settleAllThatCan, rfl, by decide +kernel⟩
theorem ok_Qu_settleAllThatCan : am_ok am_Pr 215 := am_ok_of (N := 31) (d := hd_Qu_settleAllThatCan) rfl (fun _ h => am_cond0 h) (by decide +kernel)
theorem hk_Qu_firstThatCanSettle : am_hok am_Pr 216 := ⟨hd_Qu_firstThatCanSettle, rfl, by decide +kernel⟩
theorem ok_Qu_firstThatCanSettle : am_ok am_Pr 216 := am_ok_of (N := 64) (d := hd_Qu_firstThatCanSettle) rfl (fun _ h => am_cond0 h) (by decide +kernel)
theorem hk_Qu_settle : am_hok am_Pr 217 := ⟨hd_Qu_settle, rfl, by decide +kernel⟩
theorem ok_Qu_settle : am_ok am_Pr 217 := am_ok_of (N := 16) (d := hd_Qu_settle) rfl (fun _ h => am_cond0 h) (by decide +kernel)
theorem hk_Qu_end : am_hok am_Pr 218 := ⟨hd_Qu_end, rfl, by decide +kernel⟩
theorem ok_Qu_end : am_ok am_Pr 218 := am_ok_of (N := 36) (d := hd_Qu_end) rfl (fun _ h => am_cond0 h) (by decide +kernel)
theorem hk_Qu_resolve : am_hok am_Pr 219 := ⟨hd_Qu_resolve, rfl, by decide +kernel⟩
theorem ok_Qu_resolve : am_ok am_Pr 219 := am_ok_of (N := 85) (d := hd_Qu_resolve) rfl (fun _ h => am_cond0 h) (by decide +kernel)
theorem hk_Qu_dropTooMany : am_hok am_Pr 220 := ⟨hd_Qu_dropTooMany, rfl, by decide +kernel⟩
theorem ok_Qu_dropTooMany : am_ok am_Pr 220 := am_ok_of (N := 80) (d := hd_Qu_dropTooMany) rfl (fun _ h => am_cond0 h) (by decide +kernel)
theorem hk_Qu_dropFollowers : am_hok am_Pr 221 := ⟨hd_Qu_dropFollowers, rfl, by decide +kernel⟩
theorem ok_Qu_dropFollowers : am_ok am_Pr 221 := am_ok_of (N := 71) (d := hd_Qu_dropFollowers) rfl (fun _ h => am_cond0 h) (by decide +kernel)
theorem hk_Qu_settleChosen : am_hok am_Pr 222 := ⟨hd_Qu_settleChosen, rfl, by decide +kernel⟩
theorem ok_Qu_settleChosen : am_ok am_Pr 222 := am_ok_of (N := 46) (d := hd_Qu_settleChosen) rfl (fun _ h => am_cond0 h) (by decide +kernel)
theorem hk_Qu_sendAllBack : am_hok am_Pr 223 := ⟨hd_Qu_sendAllBack, rfl, by decide +kernel⟩
theorem ok_Qu_sendAllBack : am_ok am_Pr 223 := am_ok_of (N := 65) (d := hd_Qu_sendAllBack) rfl (fun _ h => am_cond0 h) (by decide +kernel)
theorem hk_Qu_tell : am_hok am_Pr 224 := ⟨hd_Qu_tell, rfl, by decide +kernel⟩
theorem ok_Qu_tell : am_ok am_Pr 224 := am_ok_of (N := 82) (d := hd_Qu_tell) rfl (fun _ h => am_cond0 h) (by decide +kernel)
theorem hk_Qu_forgetTold : am_hok am_Pr 225 := ⟨hd_Qu_forgetTold, rfl, by decide +kernel⟩
theorem ok_Qu_forgetTold : am_ok am_Pr 225 := am_ok_of (N := 6) (d := hd_Qu_forgetTold) rfl (fun _ h => am_cond0 h) (by decide +kernel)
theorem hk_Se_init : am_hok am_Pr 226 := ⟨hd_Se_init, rfl, by decide +kernel⟩
theorem ok_Se_init : am_ok am_Pr 226 := am_ok_of (N := 29) (d := hd_Se_init) rfl (fun _ h => am_cond0 h) (by decide +kernel)
theorem ok_La_law : am_ok am_Pr 227 := am_ok_of (N := 321) (d := hd_La_law) rfl (fun _ h => am_cond0 h) (by decide +kernel)
theorem hk_AL_init : am_hok am_Pr 228 := ⟨hd_AL_init, rfl, by decide +kernel⟩
theorem ok_AL_init : am_ok am_Pr 228 := am_ok_of (N := 12) (d := hd_AL_init) rfl (fun _ h => am_cond0 h) (by decide +kernel)
theorem hk_AbstractList_init : am_hok am_Pr 229 := ⟨hd_AbstractList_init, rfl, by decide +kernel⟩
theorem ok_AbstractList_init : am_ok am_Pr 229 := am_ok_of (N := 10) (d := hd_AbstractList_init) rfl (fun _ h => am_cond0 h) (by decide +kernel)
theorem hk_AbstractCollection_init : am_hok am_Pr 230 := ⟨hd_AbstractCollection_init, rfl, by decide +kernel⟩
theorem ok_AbstractCollection_init : am_ok am_Pr 230 := am_ok_of (N := 5) (d := hd_AbstractCollection_init) rfl (fun _ h => am_cond0 h) (by decide +kernel)
theorem hk_AL_size : am_hok am_Pr 231 := ⟨hd_AL_size, rfl, by decide +kernel⟩
theorem ok_AL_size : am_ok am_Pr 231 := am_ok_of (N := 5) (d := hd_AL_size) rfl (fun _ h => am_cond0 h) (by decide +kernel)
theorem hk_AL_clear : am_hok am_Pr 232 := ⟨hd_AL_clear, rfl, by decide +kernel⟩
theorem ok_AL_clear : am_ok am_Pr 232 := am_ok_of (N := 43) (d := hd_AL_clear) rfl (fun _ h => am_cond0 h) (by decide +kernel)
theorem ok_Ma_min : am_ok am_Pr 233 := am_ok_of (N := 11) (d := hd_Ma_min) rfl (fun _ h => am_cond0 h) (by decide +kernel)
theorem ok_Ma_min2 : am_ok am_Pr 234 := am_ok_of (N := 12) (d := hd_Ma_min2) rfl (fun _ h => am_cond0 h) (by decide +kernel)
theorem ok_Ma_abs : am_ok am_Pr 235 := am_ok_of (N := 13) (d := hd_Ma_abs) rfl (fun _ h => am_cond0 h) (by decide +kernel)
theorem hk_St_length : am_hok am_Pr 236 := ⟨hd_St_length, rfl, by decide +kernel⟩
theorem ok_St_length : am_ok am_Pr 236 := am_ok_of (N := 11) (d := hd_St_length) rfl (fun _ h => am_cond0 h) (by decide +kernel)
theorem hk_St_coder : am_hok am_Pr 237 := ⟨hd_St_coder, rfl, by decide +kernel⟩
theorem ok_St_coder : am_ok am_Pr 237 := am_ok_of (N := 15) (d := hd_St_coder) rfl (fun _ h => am_cond0 h) (by decide +kernel)
theorem hk_St_isLatin1 : am_hok am_Pr 238 := ⟨hd_St_isLatin1, rfl, by decide +kernel⟩
theorem ok_St_isLatin1 : am_ok am_Pr 238 := am_ok_of (N := 19) (d := hd_St_isLatin1) rfl (fun _ h => am_cond0 h) (by decide +kernel)
theorem hk_St_charAt : am_hok am_Pr 239 := ⟨hd_St_charAt, rfl, by decide +kernel⟩
theorem ok_St_charAt : am_ok am_Pr 239 := am_ok_of (N := 25) (d := hd_St_charAt) rfl (fun _ h => am_cond0 h) (by decide +kernel)
theorem hk_St_checkIndex : am_hok am_Pr 240 := ⟨hd_St_checkIndex, rfl, by decide +kernel⟩
theorem ok_St_checkIndex : am_ok am_Pr 240 := am_ok_of (N := 10) (d := hd_St_checkIndex) rfl (fun _ h => am_cond0 h) (by decide +kernel)
theorem hk_StringLatin1_charAt : am_hok am_Pr 241 := ⟨hd_StringLatin1_charAt, rfl, by decide +kernel⟩
theorem ok_StringLatin1_charAt : am_ok am_Pr 241 := am_ok_of (N := 15) (d := hd_StringLatin1_charAt) rfl (fun _ h => am_cond0 h) (by decide +kernel)
theorem hk_Preconditions_checkIndex : am_hok am_Pr 242 := ⟨hd_Preconditions_checkIndex, rfl, by decide +kernel⟩
theorem ok_Preconditions_checkIndex : am_ok am_Pr 242 := am_ok_of (N := 18) (d := hd_Preconditions_checkIndex) rfl (fun _ h => am_cond0 h) (by decide +kernel)
theorem hk_Objects_checkIndex : am_hok am_Pr 243 := ⟨hd_Objects_checkIndex, rfl, by decide +kernel⟩
theorem ok_Objects_checkIndex : am_ok am_Pr 243 := am_ok_of (N := 7) (d := hd_Objects_checkIndex) rfl (fun _ h => am_cond0 h) (by decide +kernel)
theorem hk_AL_get : am_hok am_Pr 244 := ⟨hd_AL_get, rfl, by decide +kernel⟩
theorem ok_AL_get : am_ok am_Pr 244 := am_ok_of (N := 15) (d := hd_AL_get) rfl (fun _ h => am_cond0 h) (by decide +kernel)
theorem hk_AL_elementData : am_hok am_Pr 245 := ⟨hd_AL_elementData, rfl, by decide +kernel⟩
theorem ok_AL_elementData : am_ok am_Pr 245 := am_ok_of (N := 7) (d := hd_AL_elementData) rfl (fun _ h => am_cond0 h) (by decide +kernel)
theorem hk_AL_add2 : am_hok am_Pr 246 := ⟨hd_AL_add2, rfl, by decide +kernel⟩
theorem ok_AL_add2 : am_ok am_Pr 246 := am_ok_of (N := 25) (d := hd_AL_add2) rfl (fun _ h => am_cond0 h) (by decide +kernel)
theorem hk_AL_add : am_hok am_Pr 247 := ⟨hd_AL_add, rfl, by decide +kernel⟩
theorem ok_AL_add : am_ok am_Pr 247 := am_ok_of (N := 23) (d := hd_AL_add) rfl (fun _ h => am_cond0 h) (by decide +kernel)
theorem hk_AL_grow2 : am_hok am_Pr 248 := ⟨hd_AL_grow2, rfl, by decide +kernel⟩
theorem ok_AL_grow2 : am_ok am_Pr 248 := am_ok_of (N := 11) (d := hd_AL_grow2) rfl (fun _ h => am_cond0 h) (by decide +kernel)
theorem hk_AL_grow : am_hok am_Pr 249 := ⟨hd_AL_grow, rfl, by decide +kernel⟩
theorem ok_AL_grow : am_ok am_Pr 249 := am_ok_of (N := 60) (d := hd_AL_grow) rfl (fun _ h => am_cond0 h) (by decide +kernel)
theorem hk_ArraysSupport_newLength : am_hok am_Pr 250 := ⟨hd_ArraysSupport_newLength, rfl, by decide +kernel⟩
theorem ok_ArraysSupport_newLength : am_ok am_Pr 250 := am_ok_of (N := 27) (d := hd_ArraysSupport_newLength) rfl (fun _ h => am_cond0 h) (by decide +kernel)
theorem hk_Arrays_copyOf : am_hok am_Pr 251 := ⟨hd_Arrays_copyOf, rfl, by decide +kernel⟩
theorem ok_Arrays_copyOf : am_ok am_Pr 251 := am_ok_of (N := 10) (d := hd_Arrays_copyOf) rfl (fun _ h => am_cond0 h) (by decide +kernel)
