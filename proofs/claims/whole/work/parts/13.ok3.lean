/-! The tables agree with the bytes and the words. -/
theorem hk_De_judgePledge : am_hok am_Pr 150 := ⟨hd_De_judgePledge, rfl, by decide +kernel⟩
theorem ok_De_judgePledge : am_ok am_Pr 150 := am_ok_of (N := 108) (d := hd_De_judgePledge) rfl (fun _ h => am_cond0 h) (by decide +kernel)
theorem hk_De_judgeUnpledge : am_hok am_Pr 151 := ⟨hd_De_judgeUnpledge, rfl, by decide +kernel⟩
theorem ok_De_judgeUnpledge : am_ok am_Pr 151 := am_ok_of (N := 88) (d := hd_De_judgeUnpledge) rfl (fun _ h => am_cond0 h) (by decide +kernel)
theorem hk_De_carryOut : am_hok am_Pr 152 := ⟨hd_De_carryOut, rfl, by decide +kernel⟩
theorem ok_De_carryOut : am_ok am_Pr 152 := am_ok_of (N := 128) (d := hd_De_carryOut) rfl (fun _ h => am_cond0 h) (by decide +kernel)
theorem hk_De_okOf : am_hok am_Pr 153 := ⟨hd_De_okOf, rfl, by decide +kernel⟩
theorem ok_De_okOf : am_ok am_Pr 153 := am_ok_of (N := 30) (d := hd_De_okOf) rfl (fun _ h => am_cond0 h) (by decide +kernel)
theorem hk_De_change : am_hok am_Pr 154 := ⟨hd_De_change, rfl, by decide +kernel⟩
theorem ok_De_change : am_ok am_Pr 154 := am_ok_of (N := 359) (d := hd_De_change) rfl (fun _ h => am_cond0 h) (by decide +kernel)
theorem hk_De_pledgeMore : am_hok am_Pr 155 := ⟨hd_De_pledgeMore, rfl, by decide +kernel⟩
theorem ok_De_pledgeMore : am_ok am_Pr 155 := am_ok_of (N := 37) (d := hd_De_pledgeMore) rfl (fun _ h => am_cond0 h) (by decide +kernel)
theorem hk_De_pay : am_hok am_Pr 156 := ⟨hd_De_pay, rfl, by decide +kernel⟩
theorem ok_De_pay : am_ok am_Pr 156 := am_ok_of (N := 46) (d := hd_De_pay) rfl (fun _ h => am_cond0 h) (by decide +kernel)
theorem hk_De_addLeg : am_hok am_Pr 157 := ⟨hd_De_addLeg, rfl, by decide +kernel⟩
theorem ok_De_addLeg : am_ok am_Pr 157 := am_ok_of (N := 131) (d := hd_De_addLeg) rfl (fun _ h => am_cond0 h) (by decide +kernel)
theorem hk_De_confirm : am_hok am_Pr 158 := ⟨hd_De_confirm, rfl, by decide +kernel⟩
theorem ok_De_confirm : am_ok am_Pr 158 := am_ok_of (N := 57) (d := hd_De_confirm) rfl (fun _ h => am_cond0 h) (by decide +kernel)
theorem hk_De_putBehind : am_hok am_Pr 159 := ⟨hd_De_putBehind, rfl, by decide +kernel⟩
theorem ok_De_putBehind : am_ok am_Pr 159 := am_ok_of (N := 35) (d := hd_De_putBehind) rfl (fun _ h => am_cond0 h) (by decide +kernel)
theorem hk_De_letPass : am_hok am_Pr 160 := ⟨hd_De_letPass, rfl, by decide +kernel⟩
theorem ok_De_letPass : am_ok am_Pr 160 := am_ok_of (N := 107) (d := hd_De_letPass) rfl (fun _ h => am_cond0 h) (by decide +kernel)
theorem hk_De_beginDay : am_hok am_Pr 161 := ⟨hd_De_beginDay, rfl, by decide +kernel⟩
theorem ok_De_beginDay : am_ok am_Pr 161 := am_ok_of (N := 30) (d := hd_De_beginDay) rfl (fun _ h => am_cond0 h) (by decide +kernel)
theorem hk_Di_init : am_hok am_Pr 162 := ⟨hd_Di_init, rfl, by decide +kernel⟩
theorem ok_Di_init : am_ok am_Pr 162 := am_ok_of (N := 15) (d := hd_Di_init) rfl (fun _ h => am_cond0 h) (by decide +kernel)
theorem hk_Di_writeBlock : am_hok am_Pr 163 := ⟨hd_Di_writeBlock, rfl, by decide +kernel⟩
theorem ok_Di_writeBlock : am_ok am_Pr 163 := am_ok_of (N := 48) (d := hd_Di_writeBlock) rfl (fun _ h => am_cond0 h) (by decide +kernel)
theorem hk_Di_writeRecord : am_hok am_Pr 164 := ⟨hd_Di_writeRecord, rfl, by decide +kernel⟩
theorem ok_Di_writeRecord : am_ok am_Pr 164 := am_ok_of (N := 55) (d := hd_Di_writeRecord) rfl (fun _ h => am_cond0 h) (by decide +kernel)
theorem hk_Di_writeSnapshot : am_hok am_Pr 165 := ⟨hd_Di_writeSnapshot, rfl, by decide +kernel⟩
theorem ok_Di_writeSnapshot : am_ok am_Pr 165 := am_ok_of (N := 36) (d := hd_Di_writeSnapshot) rfl (fun _ h => am_cond0 h) (by decide +kernel)
theorem hk_Di_journalBlocks : am_hok am_Pr 166 := ⟨hd_Di_journalBlocks, rfl, by decide +kernel⟩
theorem ok_Di_journalBlocks : am_ok am_Pr 166 := am_ok_of (N := 8) (d := hd_Di_journalBlocks) rfl (fun _ h => am_cond0 h) (by decide +kernel)
theorem hk_Di_blocksOf : am_hok am_Pr 167 := ⟨hd_Di_blocksOf, rfl, by decide +kernel⟩
theorem ok_Di_blocksOf : am_ok am_Pr 167 := am_ok_of (N := 12) (d := hd_Di_blocksOf) rfl (fun _ h => am_cond0 h) (by decide +kernel)
theorem hk_In_init : am_hok am_Pr 168 := ⟨hd_In_init, rfl, by decide +kernel⟩
theorem ok_In_init : am_ok am_Pr 168 := am_ok_of (N := 68) (d := hd_In_init) rfl (fun _ h => am_cond0 h) (by decide +kernel)
theorem hk_In_awaitUnlessSender : am_hok am_Pr 169 := ⟨hd_In_awaitUnlessSender, rfl, by decide +kernel⟩
theorem ok_In_awaitUnlessSender : am_ok am_Pr 169 := am_ok_of (N := 49) (d := hd_In_awaitUnlessSender) rfl (fun _ h => am_cond0 h) (by decide +kernel)
theorem hk_In_awaits : am_hok am_Pr 170 := ⟨hd_In_awaits, rfl, by decide +kernel⟩
theorem ok_In_awaits : am_ok am_Pr 170 := am_ok_of (N := 30) (d := hd_In_awaits) rfl (fun _ h => am_cond0 h) (by decide +kernel)
theorem hk_In_awaitsNobody : am_hok am_Pr 171 := ⟨hd_In_awaitsNobody, rfl, by decide +kernel⟩
theorem ok_In_awaitsNobody : am_ok am_Pr 171 := am_ok_of (N := 13) (d := hd_In_awaitsNobody) rfl (fun _ h => am_cond0 h) (by decide +kernel)
theorem hk_In_confirmBy : am_hok am_Pr 172 := ⟨hd_In_confirmBy, rfl, by decide +kernel⟩
theorem ok_In_confirmBy : am_ok am_Pr 172 := am_ok_of (N := 53) (d := hd_In_confirmBy) rfl (fun _ h => am_cond0 h) (by decide +kernel)
theorem hk_In_addToNet : am_hok am_Pr 173 := ⟨hd_In_addToNet, rfl, by decide +kernel⟩
theorem ok_In_addToNet : am_ok am_Pr 173 := am_ok_of (N := 84) (d := hd_In_addToNet) rfl (fun _ h => am_cond0 h) (by decide +kernel)
theorem hk_In_canSettleBehind : am_hok am_Pr 174 := ⟨hd_In_canSettleBehind, rfl, by decide +kernel⟩
theorem ok_In_canSettleBehind : am_ok am_Pr 174 := am_ok_of (N := 59) (d := hd_In_canSettleBehind) rfl (fun _ h => am_cond0 h) (by decide +kernel)
theorem hk_In_markTaken : am_hok am_Pr 175 := ⟨hd_In_markTaken, rfl, by decide +kernel⟩
theorem ok_In_markTaken : am_ok am_Pr 175 := am_ok_of (N := 35) (d := hd_In_markTaken) rfl (fun _ h => am_cond0 h) (by decide +kernel)
theorem hk_In_takesMarked : am_hok am_Pr 176 := ⟨hd_In_takesMarked, rfl, by decide +kernel⟩
theorem ok_In_takesMarked : am_ok am_Pr 176 := am_ok_of (N := 41) (d := hd_In_takesMarked) rfl (fun _ h => am_cond0 h) (by decide +kernel)
theorem hk_In_isLastTooMany : am_hok am_Pr 177 := ⟨hd_In_isLastTooMany, rfl, by decide +kernel⟩
theorem ok_In_isLastTooMany : am_ok am_Pr 177 := am_ok_of (N := 55) (d := hd_In_isLastTooMany) rfl (fun _ h => am_cond0 h) (by decide +kernel)
theorem hk_In_beginTrial : am_hok am_Pr 178 := ⟨hd_In_beginTrial, rfl, by decide +kernel⟩
theorem ok_In_beginTrial : am_ok am_Pr 178 := am_ok_of (N := 40) (d := hd_In_beginTrial) rfl (fun _ h => am_cond0 h) (by decide +kernel)
theorem hk_In_joinTrial : am_hok am_Pr 179 := ⟨hd_In_joinTrial, rfl, by decide +kernel⟩
theorem ok_In_joinTrial : am_ok am_Pr 179 := am_ok_of (N := 37) (d := hd_In_joinTrial) rfl (fun _ h => am_cond0 h) (by decide +kernel)
theorem hk_In_leaveTrial : am_hok am_Pr 180 := ⟨hd_In_leaveTrial, rfl, by decide +kernel⟩
theorem ok_In_leaveTrial : am_ok am_Pr 180 := am_ok_of (N := 42) (d := hd_In_leaveTrial) rfl (fun _ h => am_cond0 h) (by decide +kernel)
theorem hk_In_doNets : am_hok am_Pr 181 := ⟨hd_In_doNets, rfl, by decide +kernel⟩
theorem ok_In_doNets : am_ok am_Pr 181 := am_ok_of (N := 32) (d := hd_In_doNets) rfl (fun _ h => am_cond0 h) (by decide +kernel)
theorem hk_In_takes : am_hok am_Pr 182 := ⟨hd_In_takes, rfl, by decide +kernel⟩
theorem ok_In_takes : am_ok am_Pr 182 := am_ok_of (N := 29) (d := hd_In_takes) rfl (fun _ h => am_cond0 h) (by decide +kernel)
theorem hk_Me_init : am_hok am_Pr 183 := ⟨hd_Me_init, rfl, by decide +kernel⟩
theorem ok_Me_init : am_ok am_Pr 183 := am_ok_of (N := 41) (d := hd_Me_init) rfl (fun _ h => am_cond0 h) (by decide +kernel)
theorem hk_Me_read : am_hok am_Pr 184 := ⟨hd_Me_read, rfl, by decide +kernel⟩
theorem ok_Me_read : am_ok am_Pr 184 := am_ok_of (N := 159) (d := hd_Me_read) rfl (fun _ h => am_cond0 h) (by decide +kernel)
theorem hk_Me_isOfBankAlone : am_hok am_Pr 185 := ⟨hd_Me_isOfBankAlone, rfl, by decide +kernel⟩
theorem ok_Me_isOfBankAlone : am_ok am_Pr 185 := am_ok_of (N := 54) (d := hd_Me_isOfBankAlone) rfl (fun _ h => am_cond0 h) (by decide +kernel)
theorem hk_Me_takesReference : am_hok am_Pr 186 := ⟨hd_Me_takesReference, rfl, by decide +kernel⟩
theorem ok_Me_takesReference : am_ok am_Pr 186 := am_ok_of (N := 24) (d := hd_Me_takesReference) rfl (fun _ h => am_cond0 h) (by decide +kernel)
theorem hk_Me_copyOfBytes : am_hok am_Pr 187 := ⟨hd_Me_copyOfBytes, rfl, by decide +kernel⟩
theorem ok_Me_copyOfBytes : am_ok am_Pr 187 := am_ok_of (N := 23) (d := hd_Me_copyOfBytes) rfl (fun _ h => am_cond0 h) (by decide +kernel)
theorem hk_Me_hasSameBytes : am_hok am_Pr 188 := ⟨hd_Me_hasSameBytes, rfl, by decide +kernel⟩
theorem ok_Me_hasSameBytes : am_ok am_Pr 188 := am_ok_of (N := 43) (d := hd_Me_hasSameBytes) rfl (fun _ h => am_cond0 h) (by decide +kernel)
theorem hk_Me_hasLettersAndDigitsAlone : am_hok am_Pr 189 := ⟨hd_Me_hasLettersAndDigitsAlone, rfl, by decide +kernel⟩
theorem ok_Me_hasLettersAndDigitsAlone : am_ok am_Pr 189 := am_ok_of (N := 54) (d := hd_Me_hasLettersAndDigitsAlone) rfl (fun _ h => am_cond0 h) (by decide +kernel)
theorem hk_Me_hasRightCheckDigits : am_hok am_Pr 190 := ⟨hd_Me_hasRightCheckDigits, rfl, by decide +kernel⟩
theorem ok_Me_hasRightCheckDigits : am_ok am_Pr 190 := am_ok_of (N := 100) (d := hd_Me_hasRightCheckDigits) rfl (fun _ h => am_cond0 h) (by decide +kernel)
theorem hk_Me_readKind : am_hok am_Pr 191 := ⟨hd_Me_readKind, rfl, by decide +kernel⟩
theorem ok_Me_readKind : am_ok am_Pr 191 := am_ok_of (N := 79) (d := hd_Me_readKind) rfl (fun _ h => am_cond0 h) (by decide +kernel)
theorem hk_Me_fieldsOf : am_hok am_Pr 192 := ⟨hd_Me_fieldsOf, rfl, by decide +kernel⟩
theorem ok_Me_fieldsOf : am_ok am_Pr 192 := am_ok_of (N := 110) (d := hd_Me_fieldsOf) rfl (fun _ h => am_cond0 h) (by decide +kernel)
theorem hk_Me_readFields : am_hok am_Pr 193 := ⟨hd_Me_readFields, rfl, by decide +kernel⟩
theorem ok_Me_readFields : am_ok am_Pr 193 := am_ok_of (N := 244) (d := hd_Me_readFields) rfl (fun _ h => am_cond0 h) (by decide +kernel)
theorem hk_Me_readSort : am_hok am_Pr 194 := ⟨hd_Me_readSort, rfl, by decide +kernel⟩
theorem ok_Me_readSort : am_ok am_Pr 194 := am_ok_of (N := 50) (d := hd_Me_readSort) rfl (fun _ h => am_cond0 h) (by decide +kernel)
theorem hk_Me_readKnownCode : am_hok am_Pr 195 := ⟨hd_Me_readKnownCode, rfl, by decide +kernel⟩
theorem ok_Me_readKnownCode : am_ok am_Pr 195 := am_ok_of (N := 62) (d := hd_Me_readKnownCode) rfl (fun _ h => am_cond0 h) (by decide +kernel)
theorem hk_Me_readAmount : am_hok am_Pr 196 := ⟨hd_Me_readAmount, rfl, by decide +kernel⟩
theorem ok_Me_readAmount : am_ok am_Pr 196 := am_ok_of (N := 44) (d := hd_Me_readAmount) rfl (fun _ h => am_cond0 h) (by decide +kernel)
theorem hk_Me_readPriority : am_hok am_Pr 197 := ⟨hd_Me_readPriority, rfl, by decide +kernel⟩
theorem ok_Me_readPriority : am_ok am_Pr 197 := am_ok_of (N := 24) (d := hd_Me_readPriority) rfl (fun _ h => am_cond0 h) (by decide +kernel)
theorem hk_Me_readLegs : am_hok am_Pr 198 := ⟨hd_Me_readLegs, rfl, by decide +kernel⟩
theorem ok_Me_readLegs : am_ok am_Pr 198 := am_ok_of (N := 62) (d := hd_Me_readLegs) rfl (fun _ h => am_cond0 h) (by decide +kernel)
theorem hk_Me_readDigits : am_hok am_Pr 199 := ⟨hd_Me_readDigits, rfl, by decide +kernel⟩
theorem ok_Me_readDigits : am_ok am_Pr 199 := am_ok_of (N := 84) (d := hd_Me_readDigits) rfl (fun _ h => am_cond0 h) (by decide +kernel)
