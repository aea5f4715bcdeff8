/-! The tables agree with the bytes and the words. -/
theorem hk_An_putText : am_hok am_Pr 100 := ⟨hd_An_putText, rfl, by decide +kernel⟩
theorem ok_An_putText : am_ok am_Pr 100 := am_ok_of (N := 26) (d := hd_An_putText) rfl (fun _ h => am_cond0 h) (by decide +kernel)
theorem hk_An_putLine : am_hok am_Pr 101 := ⟨hd_An_putLine, rfl, by decide +kernel⟩
theorem ok_An_putLine : am_ok am_Pr 101 := am_ok_of (N := 12) (d := hd_An_putLine) rfl (fun _ h => am_cond0 h) (by decide +kernel)
theorem hk_An_putVerdict : am_hok am_Pr 102 := ⟨hd_An_putVerdict, rfl, by decide +kernel⟩
theorem ok_An_putVerdict : am_ok am_Pr 102 := am_ok_of (N := 47) (d := hd_An_putVerdict) rfl (fun _ h => am_cond0 h) (by decide +kernel)
theorem hk_An_putCode : am_hok am_Pr 103 := ⟨hd_An_putCode, rfl, by decide +kernel⟩
theorem ok_An_putCode : am_ok am_Pr 103 := am_ok_of (N := 95) (d := hd_An_putCode) rfl (fun _ h => am_cond0 h) (by decide +kernel)
theorem hk_An_putNumber : am_hok am_Pr 104 := ⟨hd_An_putNumber, rfl, by decide +kernel⟩
theorem ok_An_putNumber : am_ok am_Pr 104 := am_ok_of (N := 93) (d := hd_An_putNumber) rfl (fun _ h => am_cond0 h) (by decide +kernel)
theorem hk_As_init : am_hok am_Pr 105 := ⟨hd_As_init, rfl, by decide +kernel⟩
theorem ok_As_init : am_ok am_Pr 105 := am_ok_of (N := 26) (d := hd_As_init) rfl (fun _ h => am_cond0 h) (by decide +kernel)
theorem hk_As_worth : am_hok am_Pr 106 := ⟨hd_As_worth, rfl, by decide +kernel⟩
theorem ok_As_worth : am_ok am_Pr 106 := am_ok_of (N := 94) (d := hd_As_worth) rfl (fun _ h => am_cond0 h) (by decide +kernel)
theorem hk_Bo_init : am_hok am_Pr 107 := ⟨hd_Bo_init, rfl, by decide +kernel⟩
theorem ok_Bo_init : am_ok am_Pr 107 := am_ok_of (N := 50) (d := hd_Bo_init) rfl (fun _ h => am_cond0 h) (by decide +kernel)
theorem hk_Bo_findParticipant : am_hok am_Pr 108 := ⟨hd_Bo_findParticipant, rfl, by decide +kernel⟩
theorem ok_Bo_findParticipant : am_ok am_Pr 108 := am_ok_of (N := 33) (d := hd_Bo_findParticipant) rfl (fun _ h => am_cond0 h) (by decide +kernel)
theorem hk_Bo_findAsset : am_hok am_Pr 109 := ⟨hd_Bo_findAsset, rfl, by decide +kernel⟩
theorem ok_Bo_findAsset : am_ok am_Pr 109 := am_ok_of (N := 33) (d := hd_Bo_findAsset) rfl (fun _ h => am_cond0 h) (by decide +kernel)
theorem hk_Bo_addParticipant : am_hok am_Pr 110 := ⟨hd_Bo_addParticipant, rfl, by decide +kernel⟩
theorem ok_Bo_addParticipant : am_ok am_Pr 110 := am_ok_of (N := 39) (d := hd_Bo_addParticipant) rfl (fun _ h => am_cond0 h) (by decide +kernel)
theorem hk_Bo_addAsset : am_hok am_Pr 111 := ⟨hd_Bo_addAsset, rfl, by decide +kernel⟩
theorem ok_Bo_addAsset : am_ok am_Pr 111 := am_ok_of (N := 54) (d := hd_Bo_addAsset) rfl (fun _ h => am_cond0 h) (by decide +kernel)
theorem hk_Bo_levelOf : am_hok am_Pr 112 := ⟨hd_Bo_levelOf, rfl, by decide +kernel⟩
theorem ok_Bo_levelOf : am_ok am_Pr 112 := am_ok_of (N := 25) (d := hd_Bo_levelOf) rfl (fun _ h => am_cond0 h) (by decide +kernel)
theorem hk_Bo_pledgedOf : am_hok am_Pr 113 := ⟨hd_Bo_pledgedOf, rfl, by decide +kernel⟩
theorem ok_Bo_pledgedOf : am_ok am_Pr 113 := am_ok_of (N := 37) (d := hd_Bo_pledgedOf) rfl (fun _ h => am_cond0 h) (by decide +kernel)
theorem hk_Bo_account : am_hok am_Pr 114 := ⟨hd_Bo_account, rfl, by decide +kernel⟩
theorem ok_Bo_account : am_ok am_Pr 114 := am_ok_of (N := 80) (d := hd_Bo_account) rfl (fun _ h => am_cond0 h) (by decide +kernel)
theorem hk_Bo_findRoom : am_hok am_Pr 115 := ⟨hd_Bo_findRoom, rfl, by decide +kernel⟩
theorem ok_Bo_findRoom : am_ok am_Pr 115 := am_ok_of (N := 56) (d := hd_Bo_findRoom) rfl (fun _ h => am_cond0 h) (by decide +kernel)
theorem hk_Bo_room : am_hok am_Pr 116 := ⟨hd_Bo_room, rfl, by decide +kernel⟩
theorem ok_Bo_room : am_ok am_Pr 116 := am_ok_of (N := 36) (d := hd_Bo_room) rfl (fun _ h => am_cond0 h) (by decide +kernel)
theorem hk_Bo_setLimit : am_hok am_Pr 117 := ⟨hd_Bo_setLimit, rfl, by decide +kernel⟩
theorem ok_Bo_setLimit : am_ok am_Pr 117 := am_ok_of (N := 29) (d := hd_Bo_setLimit) rfl (fun _ h => am_cond0 h) (by decide +kernel)
theorem hk_Bo_dropLimit : am_hok am_Pr 118 := ⟨hd_Bo_dropLimit, rfl, by decide +kernel⟩
theorem ok_Bo_dropLimit : am_ok am_Pr 118 := am_ok_of (N := 23) (d := hd_Bo_dropLimit) rfl (fun _ h => am_cond0 h) (by decide +kernel)
theorem hk_Bo_give : am_hok am_Pr 119 := ⟨hd_Bo_give, rfl, by decide +kernel⟩
theorem ok_Bo_give : am_ok am_Pr 119 := am_ok_of (N := 22) (d := hd_Bo_give) rfl (fun _ h => am_cond0 h) (by decide +kernel)
theorem hk_Bo_creditIfPledged : am_hok am_Pr 120 := ⟨hd_Bo_creditIfPledged, rfl, by decide +kernel⟩
theorem ok_Bo_creditIfPledged : am_ok am_Pr 120 := am_ok_of (N := 57) (d := hd_Bo_creditIfPledged) rfl (fun _ h => am_cond0 h) (by decide +kernel)
theorem hk_Bo_creditIfPriced : am_hok am_Pr 121 := ⟨hd_Bo_creditIfPriced, rfl, by decide +kernel⟩
theorem ok_Bo_creditIfPriced : am_ok am_Pr 121 := am_ok_of (N := 55) (d := hd_Bo_creditIfPriced) rfl (fun _ h => am_cond0 h) (by decide +kernel)
theorem hk_Bo_canHaveCredit : am_hok am_Pr 122 := ⟨hd_Bo_canHaveCredit, rfl, by decide +kernel⟩
theorem ok_Bo_canHaveCredit : am_ok am_Pr 122 := am_ok_of (N := 29) (d := hd_Bo_canHaveCredit) rfl (fun _ h => am_cond0 h) (by decide +kernel)
theorem hk_Bo_allCreditIf : am_hok am_Pr 123 := ⟨hd_Bo_allCreditIf, rfl, by decide +kernel⟩
theorem ok_Bo_allCreditIf : am_ok am_Pr 123 := am_ok_of (N := 17) (d := hd_Bo_allCreditIf) rfl (fun _ h => am_cond0 h) (by decide +kernel)
theorem hk_Bo_allCreditIfPriced : am_hok am_Pr 124 := ⟨hd_Bo_allCreditIfPriced, rfl, by decide +kernel⟩
theorem ok_Bo_allCreditIfPriced : am_ok am_Pr 124 := am_ok_of (N := 55) (d := hd_Bo_allCreditIfPriced) rfl (fun _ h => am_cond0 h) (by decide +kernel)
theorem hk_Bo_pledge : am_hok am_Pr 125 := ⟨hd_Bo_pledge, rfl, by decide +kernel⟩
theorem ok_Bo_pledge : am_ok am_Pr 125 := am_ok_of (N := 23) (d := hd_Bo_pledge) rfl (fun _ h => am_cond0 h) (by decide +kernel)
theorem hk_Bo_setPrice : am_hok am_Pr 126 := ⟨hd_Bo_setPrice, rfl, by decide +kernel⟩
theorem ok_Bo_setPrice : am_ok am_Pr 126 := am_ok_of (N := 56) (d := hd_Bo_setPrice) rfl (fun _ h => am_cond0 h) (by decide +kernel)
theorem hk_Bo_setCredit : am_hok am_Pr 127 := ⟨hd_Bo_setCredit, rfl, by decide +kernel⟩
theorem ok_Bo_setCredit : am_ok am_Pr 127 := am_ok_of (N := 47) (d := hd_Bo_setCredit) rfl (fun _ h => am_cond0 h) (by decide +kernel)
theorem hk_Bo_beginDay : am_hok am_Pr 128 := ⟨hd_Bo_beginDay, rfl, by decide +kernel⟩
theorem ok_Bo_beginDay : am_ok am_Pr 128 := am_ok_of (N := 96) (d := hd_Bo_beginDay) rfl (fun _ h => am_cond0 h) (by decide +kernel)
theorem hk_Bo_snapshotBytes : am_hok am_Pr 129 := ⟨hd_Bo_snapshotBytes, rfl, by decide +kernel⟩
theorem ok_Bo_snapshotBytes : am_ok am_Pr 129 := am_ok_of (N := 98) (d := hd_Bo_snapshotBytes) rfl (fun _ h => am_cond0 h) (by decide +kernel)
theorem hk_Bo_putStatement : am_hok am_Pr 130 := ⟨hd_Bo_putStatement, rfl, by decide +kernel⟩
theorem ok_Bo_putStatement : am_ok am_Pr 130 := am_ok_of (N := 120) (d := hd_Bo_putStatement) rfl (fun _ h => am_cond0 h) (by decide +kernel)
theorem hk_Bo_putFigure : am_hok am_Pr 131 := ⟨hd_Bo_putFigure, rfl, by decide +kernel⟩
theorem ok_Bo_putFigure : am_ok am_Pr 131 := am_ok_of (N := 12) (d := hd_Bo_putFigure) rfl (fun _ h => am_cond0 h) (by decide +kernel)
theorem hk_De_init : am_hok am_Pr 132 := ⟨hd_De_init, rfl, by decide +kernel⟩
theorem ok_De_init : am_ok am_Pr 132 := am_ok_of (N := 26) (d := hd_De_init) rfl (fun _ h => am_cond0 h) (by decide +kernel)
theorem hk_De_judge : am_hok am_Pr 133 := ⟨hd_De_judge, rfl, by decide +kernel⟩
theorem ok_De_judge : am_ok am_Pr 133 := am_ok_of (N := 128) (d := hd_De_judge) rfl (fun _ h => am_cond0 h) (by decide +kernel)
theorem hk_De_findCodes : am_hok am_Pr 134 := ⟨hd_De_findCodes, rfl, by decide +kernel⟩
theorem ok_De_findCodes : am_ok am_Pr 134 := am_ok_of (N := 87) (d := hd_De_findCodes) rfl (fun _ h => am_cond0 h) (by decide +kernel)
theorem hk_De_findSent : am_hok am_Pr 135 := ⟨hd_De_findSent, rfl, by decide +kernel⟩
theorem ok_De_findSent : am_ok am_Pr 135 := am_ok_of (N := 58) (d := hd_De_findSent) rfl (fun _ h => am_cond0 h) (by decide +kernel)
theorem hk_De_isInPhase : am_hok am_Pr 136 := ⟨hd_De_isInPhase, rfl, by decide +kernel⟩
theorem ok_De_isInPhase : am_ok am_Pr 136 := am_ok_of (N := 140) (d := hd_De_isInPhase) rfl (fun _ h => am_cond0 h) (by decide +kernel)
theorem hk_De_isPayInPhase : am_hok am_Pr 137 := ⟨hd_De_isPayInPhase, rfl, by decide +kernel⟩
theorem ok_De_isPayInPhase : am_ok am_Pr 137 := am_ok_of (N := 40) (d := hd_De_isPayInPhase) rfl (fun _ h => am_cond0 h) (by decide +kernel)
theorem hk_De_isInFirstCurrencyAlone : am_hok am_Pr 138 := ⟨hd_De_isInFirstCurrencyAlone, rfl, by decide +kernel⟩
theorem ok_De_isInFirstCurrencyAlone : am_ok am_Pr 138 := am_ok_of (N := 40) (d := hd_De_isInFirstCurrencyAlone) rfl (fun _ h => am_cond0 h) (by decide +kernel)
theorem hk_De_judgeMatter : am_hok am_Pr 139 := ⟨hd_De_judgeMatter, rfl, by decide +kernel⟩
theorem ok_De_judgeMatter : am_ok am_Pr 139 := am_ok_of (N := 165) (d := hd_De_judgeMatter) rfl (fun _ h => am_cond0 h) (by decide +kernel)
theorem hk_De_judgeNew : am_hok am_Pr 140 := ⟨hd_De_judgeNew, rfl, by decide +kernel⟩
theorem ok_De_judgeNew : am_ok am_Pr 140 := am_ok_of (N := 38) (d := hd_De_judgeNew) rfl (fun _ h => am_cond0 h) (by decide +kernel)
theorem hk_De_judgeAsset : am_hok am_Pr 141 := ⟨hd_De_judgeAsset, rfl, by decide +kernel⟩
theorem ok_De_judgeAsset : am_ok am_Pr 141 := am_ok_of (N := 37) (d := hd_De_judgeAsset) rfl (fun _ h => am_cond0 h) (by decide +kernel)
theorem hk_De_judgePrice : am_hok am_Pr 142 := ⟨hd_De_judgePrice, rfl, by decide +kernel⟩
theorem ok_De_judgePrice : am_ok am_Pr 142 := am_ok_of (N := 115) (d := hd_De_judgePrice) rfl (fun _ h => am_cond0 h) (by decide +kernel)
theorem hk_De_judgeIssue : am_hok am_Pr 143 := ⟨hd_De_judgeIssue, rfl, by decide +kernel⟩
theorem ok_De_judgeIssue : am_ok am_Pr 143 := am_ok_of (N := 58) (d := hd_De_judgeIssue) rfl (fun _ h => am_cond0 h) (by decide +kernel)
theorem hk_De_judgeRedemption : am_hok am_Pr 144 := ⟨hd_De_judgeRedemption, rfl, by decide +kernel⟩
theorem ok_De_judgeRedemption : am_ok am_Pr 144 := am_ok_of (N := 62) (d := hd_De_judgeRedemption) rfl (fun _ h => am_cond0 h) (by decide +kernel)
theorem hk_De_judgePay : am_hok am_Pr 145 := ⟨hd_De_judgePay, rfl, by decide +kernel⟩
theorem ok_De_judgePay : am_ok am_Pr 145 := am_ok_of (N := 83) (d := hd_De_judgePay) rfl (fun _ h => am_cond0 h) (by decide +kernel)
theorem hk_De_judgeConfirmation : am_hok am_Pr 146 := ⟨hd_De_judgeConfirmation, rfl, by decide +kernel⟩
theorem ok_De_judgeConfirmation : am_ok am_Pr 146 := am_ok_of (N := 43) (d := hd_De_judgeConfirmation) rfl (fun _ h => am_cond0 h) (by decide +kernel)
theorem hk_De_judgeLimit : am_hok am_Pr 147 := ⟨hd_De_judgeLimit, rfl, by decide +kernel⟩
theorem ok_De_judgeLimit : am_ok am_Pr 147 := am_ok_of (N := 107) (d := hd_De_judgeLimit) rfl (fun _ h => am_cond0 h) (by decide +kernel)
theorem hk_De_judgeUnlimit : am_hok am_Pr 148 := ⟨hd_De_judgeUnlimit, rfl, by decide +kernel⟩
theorem ok_De_judgeUnlimit : am_ok am_Pr 148 := am_ok_of (N := 36) (d := hd_De_judgeUnlimit) rfl (fun _ h => am_cond0 h) (by decide +kernel)
theorem hk_De_canBePledged : am_hok am_Pr 149 := ⟨hd_De_canBePledged, rfl, by decide +kernel⟩
theorem ok_De_canBePledged : am_ok am_Pr 149 := am_ok_of (N := 44) (d := hd_De_canBePledged) rfl (fun _ h => am_cond0 h) (by decide +kernel)
