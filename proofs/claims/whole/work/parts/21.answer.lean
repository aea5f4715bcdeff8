/-! The bytes of an answer, on either side; digits and signs. -/
set_option maxHeartbeats 4000000 in
set_option maxRecDepth 100000 in
theorem w_aput (a tk : Nat) (c : Int32) (f : Nat → Int32) (h : am_H) (c_7 : h[7]? = some (.inr (2, [.ref 8, .int (nI a), .int (nI tk)]))) (c_8 : h[8]? = some (.inl (2, 6000, .inl f))) (ha : a < 6000) : am_Me am_Pr none 0 0 0 0 99 [.ref 7, .int c] h (fun r h' => r = none ∧ h'[7]? = some (.inr (2, [.ref 8, .int (nI (a + 1)), .int (nI tk)])) ∧ h'[8]? = some (.inl (2, 6000, .inl (upd f a (am_bn 2 (c.toInt8.toInt32))))) ∧ (∀ q, q ∉ ([7, 8] : List Nat) → h'[q]? = h[q]?) ∧ h'.length = h.length) := by
  refine am_enter (d := hd_An_put) rfl (by decide +kernel) (Nat.le_of_ble_eq_true rfl) ?_
  show am_S _ _ _ _ _ _ _ (0, [some (.ref 7), some (.int c)], [], h, 0, 0) _
  refine am_steps ok_An_put 1 (x' := (1, [some (.ref 7), some (.int c)], [.ref 7], h, 0, 0)) rfl (Nat.le_of_ble_eq_true rfl) (Nat.le_of_ble_eq_true rfl) ?_
  refine ar_get ok_An_put rfl c_7 (v := .int (nI a)) rfl (pc' := 4) rfl (Nat.le_of_ble_eq_true rfl) (Nat.le_of_ble_eq_true rfl) ?_
  refine am_steps ok_An_put 2 (x' := (if (6000 : Int32) ≤ (nI a) then 31 else 10, [some (.ref 7), some (.int c)], [], h, 0, 0)) rfl (Nat.le_of_ble_eq_true rfl) (Nat.le_of_ble_eq_true rfl) ?_
  refine am_if (fun hc1 => ?_) (fun hc1 => ?_)
  · have hn2 : 6000 ≤ a := am_leN (a := 6000) (b := a) (by omega) (by omega) hc1
    omega
  · have hn3 : a < 6000 := am_nleN (a := 6000) (b := a) (by omega) hc1
    refine am_steps ok_An_put 1 (x' := (11, [some (.ref 7), some (.int c)], [.ref 7], h, 0, 0)) rfl (Nat.le_of_ble_eq_true rfl) (Nat.le_of_ble_eq_true rfl) ?_
    refine ar_get ok_An_put rfl c_7 (v := .ref 8) rfl (pc' := 14) rfl (Nat.le_of_ble_eq_true rfl) (Nat.le_of_ble_eq_true rfl) ?_
    refine am_steps ok_An_put 1 (x' := (15, [some (.ref 7), some (.int c)], [.ref 7, .ref 8], h, 0, 0)) rfl (Nat.le_of_ble_eq_true rfl) (Nat.le_of_ble_eq_true rfl) ?_
    refine ar_get ok_An_put rfl c_7 (v := .int (nI a)) rfl (pc' := 18) rfl (Nat.le_of_ble_eq_true rfl) (Nat.le_of_ble_eq_true rfl) ?_
    refine am_steps ok_An_put 2 (x' := (20, [some (.ref 7), some (.int c)], [.int ((c).toInt8.toInt32), .int (nI a), .ref 8], h, 0, 0)) rfl (Nat.le_of_ble_eq_true rfl) (Nat.le_of_ble_eq_true rfl) ?_
    refine ar_bast ok_An_put rfl c_8 (Or.inl rfl) (jx := a) (am_ixN (by omega) (by decide)) (pc' := 21) rfl (Nat.le_of_ble_eq_true rfl) (Nat.le_of_ble_eq_true rfl) (fun h4 e5 e6 e7 => ?_)
    have c8 := (e6 7 (by decide)).trans c_7
    have fr9 : ∀ q, q ∉ ([8] : List Nat) → h4[q]? = h[q]? := fun q hq => e6 q (fun z => hq (by rw [z]; decide))
    have ln10 : h4.length = h.length := e7
    refine am_steps ok_An_put 2 (x' := (23, [some (.ref 7), some (.int c)], [.ref 7, .ref 7], h4, 0, 0)) rfl (Nat.le_of_ble_eq_true rfl) (Nat.le_of_ble_eq_true rfl) ?_
    refine ar_get ok_An_put rfl c8 (v := .int (nI a)) rfl (pc' := 26) rfl (Nat.le_of_ble_eq_true rfl) (Nat.le_of_ble_eq_true rfl) ?_
    refine am_steps ok_An_put 1 (x' := (27, [some (.ref 7), some (.int c)], [.int 1, .int (nI a), .ref 7], h4, 0, 0)) rfl (Nat.le_of_ble_eq_true rfl) (Nat.le_of_ble_eq_true rfl) ?_
    refine ar_iadd ok_An_put rfl (w := (nI (a + 1))) (am_nadd a 1) (pc' := 28) rfl (Nat.le_of_ble_eq_true rfl) (Nat.le_of_ble_eq_true rfl) ?_
    refine ar_put ok_An_put rfl c8 (Nat.le_of_ble_eq_true rfl) rfl (fs' := [.ref 8, .int (nI (a + 1)), .int (nI tk)]) rfl (pc' := 31) rfl (Nat.le_of_ble_eq_true rfl) (Nat.le_of_ble_eq_true rfl) (fun h11 e12 e13 e14 => ?_)
    have c15 := (e13 8 (by decide)).trans e5
    have fr16 : ∀ q, q ∉ ([8, 7] : List Nat) → h11[q]? = h[q]? := fun q hq => (e13 q (fun z => hq (by rw [z]; decide))).trans (fr9 q (am_sub (by decide) hq))
    have ln17 : h11.length = h.length := e14.trans ln10
    exact am_ret ok_An_put rfl (Nat.le_of_ble_eq_true rfl) (Nat.le_of_ble_eq_true rfl) ⟨rfl, e12, c15, fun q hq => fr16 q (am_sub (by decide) hq), ln17⟩
set_option maxHeartbeats 4000000 in
set_option maxRecDepth 100000 in
theorem w_aclear (a tk : Nat) (h : am_H) (c_7 : h[7]? = some (.inr (2, [.ref 8, .int (nI a), .int (nI tk)])))  : am_Me am_Pr none 0 0 0 0 97 [.ref 7] h (fun r h' => r = none ∧ h'[7]? = some (.inr (2, [.ref 8, .int 0, .int 0])) ∧ (∀ q, q ∉ ([7] : List Nat) → h'[q]? = h[q]?) ∧ h'.length = h.length) := by
  refine am_enter (d := hd_An_clear) rfl (by decide +kernel) (Nat.le_of_ble_eq_true rfl) ?_
  show am_S _ _ _ _ _ _ _ (0, [some (.ref 7)], [], h, 0, 0) _
  refine am_steps ok_An_clear 2 (x' := (2, [some (.ref 7)], [.int 0, .ref 7], h, 0, 0)) rfl (Nat.le_of_ble_eq_true rfl) (Nat.le_of_ble_eq_true rfl) ?_
  refine ar_put ok_An_clear rfl c_7 (Nat.le_of_ble_eq_true rfl) rfl (fs' := [.ref 8, .int 0, .int (nI tk)]) rfl (pc' := 5) rfl (Nat.le_of_ble_eq_true rfl) (Nat.le_of_ble_eq_true rfl) (fun h1 e2 e3 e4 => ?_)
  have fr5 : ∀ q, q ∉ ([7] : List Nat) → h1[q]? = h[q]? := fun q hq => e3 q (fun z => hq (by rw [z]; decide))
  have ln6 : h1.length = h.length := e4
  refine am_steps ok_An_clear 2 (x' := (7, [some (.ref 7)], [.int 0, .ref 7], h1, 0, 0)) rfl (Nat.le_of_ble_eq_true rfl) (Nat.le_of_ble_eq_true rfl) ?_
  refine ar_put ok_An_clear rfl e2 (Nat.le_of_ble_eq_true rfl) rfl (fs' := [.ref 8, .int 0, .int 0]) rfl (pc' := 10) rfl (Nat.le_of_ble_eq_true rfl) (Nat.le_of_ble_eq_true rfl) (fun h7 e8 e9 e10 => ?_)
  have fr11 : ∀ q, q ∉ ([7] : List Nat) → h7[q]? = h[q]? := fun q hq => (e9 q (fun z => hq (by rw [z]; decide))).trans (fr5 q (am_sub (by decide) hq))
  have ln12 : h7.length = h.length := e10.trans ln6
  exact am_ret ok_An_clear rfl (Nat.le_of_ble_eq_true rfl) (Nat.le_of_ble_eq_true rfl) ⟨rfl, e8, fun q hq => fr11 q (am_sub (by decide) hq), ln12⟩
set_option maxHeartbeats 4000000 in
set_option maxRecDepth 100000 in
theorem x_put (a : Nat) (c : Int32) (f : Nat → Int32) (fs : List Value) (h : am_H) (hlen : fs.length = 62) (k_6 : fs[6]? = some (.ref 25)) (k_7 : fs[7]? = some (.int (nI a))) (c_25 : h[25]? = some (.inl (2, 32768, .inl f))) (c_22 : h[22]? = some (.inr (1, fs))) (ha : a < 32768) : am_Me am_Pr none 0 0 0 0 16 [.ref 22, .int c] h (fun r h' => r = none ∧ h'[22]? = some (.inr (1, (fs.set 7 (.int (nI (a + 1)))))) ∧ h'[25]? = some (.inl (2, 32768, .inl (upd f a (am_bn 2 (c.toInt8.toInt32))))) ∧ (∀ q, q ∉ ([22, 25] : List Nat) → h'[q]? = h[q]?) ∧ h'.length = h.length) := by
  refine am_enter (d := hd_Mo_put) rfl (by decide +kernel) (Nat.le_of_ble_eq_true rfl) ?_
  show am_S _ _ _ _ _ _ _ (0, [some (.ref 22), some (.int c)], [], h, 0, 0) _
  refine am_steps ok_Mo_put 1 (x' := (1, [some (.ref 22), some (.int c)], [.ref 22], h, 0, 0)) rfl (Nat.le_of_ble_eq_true rfl) (Nat.le_of_ble_eq_true rfl) ?_
  refine ar_get ok_Mo_put rfl c_22 (v := .int (nI a)) k_7 (pc' := 4) rfl (Nat.le_of_ble_eq_true rfl) (Nat.le_of_ble_eq_true rfl) ?_
  refine am_steps ok_Mo_put 1 (x' := (5, [some (.ref 22), some (.int c)], [.ref 22, .int (nI a)], h, 0, 0)) rfl (Nat.le_of_ble_eq_true rfl) (Nat.le_of_ble_eq_true rfl) ?_
  refine ar_get ok_Mo_put rfl c_22 (v := .ref 25) k_6 (pc' := 8) rfl (Nat.le_of_ble_eq_true rfl) (Nat.le_of_ble_eq_true rfl) ?_
  refine ar_alen ok_Mo_put rfl (by decide) c_25 (by decide) (w := 32768) (by decide +kernel) (pc' := 9) rfl (Nat.le_of_ble_eq_true rfl) (Nat.le_of_ble_eq_true rfl) ?_
  refine am_steps ok_Mo_put 1 (x' := (if ¬ ((nI a) : Int32) = 32768 then 13 else 12, [some (.ref 22), some (.int c)], [], h, 0, 0)) rfl (Nat.le_of_ble_eq_true rfl) (Nat.le_of_ble_eq_true rfl) ?_
  refine am_if (fun hc1 => ?_) (fun hc1 => ?_)
  · have hn2 : ¬ a = 32768 := fun z => hc1 (by rw [z]; rfl)
    refine am_steps ok_Mo_put 1 (x' := (14, [some (.ref 22), some (.int c)], [.ref 22], h, 0, 0)) rfl (Nat.le_of_ble_eq_true rfl) (Nat.le_of_ble_eq_true rfl) ?_
    refine ar_get ok_Mo_put rfl c_22 (v := .ref 25) k_6 (pc' := 17) rfl (Nat.le_of_ble_eq_true rfl) (Nat.le_of_ble_eq_true rfl) ?_
    refine am_steps ok_Mo_put 1 (x' := (18, [some (.ref 22), some (.int c)], [.ref 22, .ref 25], h, 0, 0)) rfl (Nat.le_of_ble_eq_true rfl) (Nat.le_of_ble_eq_true rfl) ?_
    refine ar_get ok_Mo_put rfl c_22 (v := .int (nI a)) k_7 (pc' := 21) rfl (Nat.le_of_ble_eq_true rfl) (Nat.le_of_ble_eq_true rfl) ?_
    refine am_steps ok_Mo_put 2 (x' := (23, [some (.ref 22), some (.int c)], [.int ((c).toInt8.toInt32), .int (nI a), .ref 25], h, 0, 0)) rfl (Nat.le_of_ble_eq_true rfl) (Nat.le_of_ble_eq_true rfl) ?_
    refine ar_bast ok_Mo_put rfl c_25 (Or.inl rfl) (jx := a) (am_ixN (by omega) (by decide)) (pc' := 24) rfl (Nat.le_of_ble_eq_true rfl) (Nat.le_of_ble_eq_true rfl) (fun h3 e4 e5 e6 => ?_)
    have c7 := (e5 22 (by decide)).trans c_22
    have fr8 : ∀ q, q ∉ ([25] : List Nat) → h3[q]? = h[q]? := fun q hq => e5 q (fun z => hq (by rw [z]; decide))
    have ln9 : h3.length = h.length := e6
    refine am_steps ok_Mo_put 2 (x' := (26, [some (.ref 22), some (.int c)], [.ref 22, .ref 22], h3, 0, 0)) rfl (Nat.le_of_ble_eq_true rfl) (Nat.le_of_ble_eq_true rfl) ?_
    refine ar_get ok_Mo_put rfl c7 (v := .int (nI a)) k_7 (pc' := 29) rfl (Nat.le_of_ble_eq_true rfl) (Nat.le_of_ble_eq_true rfl) ?_
    refine am_steps ok_Mo_put 1 (x' := (30, [some (.ref 22), some (.int c)], [.int 1, .int (nI a), .ref 22], h3, 0, 0)) rfl (Nat.le_of_ble_eq_true rfl) (Nat.le_of_ble_eq_true rfl) ?_
    refine ar_iadd ok_Mo_put rfl (w := (nI (a + 1))) (am_nadd a 1) (pc' := 31) rfl (Nat.le_of_ble_eq_true rfl) (Nat.le_of_ble_eq_true rfl) ?_
    refine ar_put ok_Mo_put rfl c7 (by rw [hlen]; decide) rfl (fs' := (fs.set 7 (.int (nI (a + 1))))) rfl (pc' := 34) rfl (Nat.le_of_ble_eq_true rfl) (Nat.le_of_ble_eq_true rfl) (fun h10 e11 e12 e13 => ?_)
    have k14 := (List.getElem?_set_ne (l := fs) (a := .int (nI (a + 1))) (show 7 ≠ 6 by decide)).trans k_6
    have k15 : (fs.set 7 (.int (nI (a + 1))))[7]? = some (.int (nI (a + 1))) := List.getElem?_set_self (by rw [hlen]; decide)
    have k16 : (fs.set 7 (.int (nI (a + 1)))).length = 62 := by rw [List.length_set]; exact hlen
    have c17 := (e12 25 (by decide)).trans e4
    have fr18 : ∀ q, q ∉ ([25, 22] : List Nat) → h10[q]? = h[q]? := fun q hq => (e12 q (fun z => hq (by rw [z]; decide))).trans (fr8 q (am_sub (by decide) hq))
    have ln19 : h10.length = h.length := e13.trans ln9
    exact am_ret ok_Mo_put rfl (Nat.le_of_ble_eq_true rfl) (Nat.le_of_ble_eq_true rfl) ⟨rfl, (by first | exact e11 | (rw [e11]; simp only [List.set_set])), c17, fun q hq => fr18 q (am_sub (by decide) hq), ln19⟩
  · have hn20 : a = 32768 := (nI_eq (a := a) (b := 32768) (by omega) (by omega)).mp (Decidable.not_not.mp hc1)
    omega
set_option maxHeartbeats 4000000 in
set_option maxRecDepth 100000 in
theorem x_silence  (fs : List Value) (h : am_H) (hlen : fs.length = 62)  (c_22 : h[22]? = some (.inr (1, fs)))  : am_Me am_Pr none 0 0 0 0 21 [.ref 22] h (fun r h' => r = none ∧ h'[22]? = some (.inr (1, ((fs.set 7 (.int 0)).set 8 (.int 0)))) ∧ (∀ q, q ∉ ([22] : List Nat) → h'[q]? = h[q]?) ∧ h'.length = h.length) := by
  refine am_enter (d := hd_Mo_silence) rfl (by decide +kernel) (Nat.le_of_ble_eq_true rfl) ?_
  show am_S _ _ _ _ _ _ _ (0, [some (.ref 22)], [], h, 0, 0) _
  refine am_steps ok_Mo_silence 2 (x' := (2, [some (.ref 22)], [.int 0, .ref 22], h, 0, 0)) rfl (Nat.le_of_ble_eq_true rfl) (Nat.le_of_ble_eq_true rfl) ?_
  refine ar_put ok_Mo_silence rfl c_22 (by rw [hlen]; decide) rfl (fs' := (fs.set 7 (.int 0))) rfl (pc' := 5) rfl (Nat.le_of_ble_eq_true rfl) (Nat.le_of_ble_eq_true rfl) (fun h1 e2 e3 e4 => ?_)
  have k5 : (fs.set 7 (.int 0))[7]? = some (.int 0) := List.getElem?_set_self (by rw [hlen]; decide)
  have k6 : (fs.set 7 (.int 0)).length = 62 := by rw [List.length_set]; exact hlen
  have fr7 : ∀ q, q ∉ ([22] : List Nat) → h1[q]? = h[q]? := fun q hq => e3 q (fun z => hq (by rw [z]; decide))
  have ln8 : h1.length = h.length := e4
  refine am_steps ok_Mo_silence 2 (x' := (7, [some (.ref 22)], [.int 0, .ref 22], h1, 0, 0)) rfl (Nat.le_of_ble_eq_true rfl) (Nat.le_of_ble_eq_true rfl) ?_
  refine ar_put ok_Mo_silence rfl e2 (by rw [k6]; decide) rfl (fs' := ((fs.set 7 (.int 0)).set 8 (.int 0))) rfl (pc' := 10) rfl (Nat.le_of_ble_eq_true rfl) (Nat.le_of_ble_eq_true rfl) (fun h9 e10 e11 e12 => ?_)
  have k13 := (List.getElem?_set_ne (l := (fs.set 7 (.int 0))) (a := .int 0) (show 8 ≠ 7 by decide)).trans k5
  have k14 : ((fs.set 7 (.int 0)).set 8 (.int 0))[8]? = some (.int 0) := List.getElem?_set_self (by rw [k6]; decide)
  have k15 : ((fs.set 7 (.int 0)).set 8 (.int 0)).length = 62 := by rw [List.length_set]; exact k6
  have fr16 : ∀ q, q ∉ ([22] : List Nat) → h9[q]? = h[q]? := fun q hq => (e11 q (fun z => hq (by rw [z]; decide))).trans (fr7 q (am_sub (by decide) hq))
  have ln17 : h9.length = h.length := e12.trans ln8
  exact am_ret ok_Mo_silence rfl (Nat.le_of_ble_eq_true rfl) (Nat.le_of_ble_eq_true rfl) ⟨rfl, (by first | exact e10 | (rw [e10]; simp only [List.set_set])), fun q hq => fr16 q (am_sub (by decide) hq), ln17⟩
def isDg (c : Int32) : Int32 := if c < 48 then 0 else if 57 < c then 0 else 1
set_option maxHeartbeats 4000000 in
set_option maxRecDepth 100000 in
theorem x_isDigit (c : Int32) (h : am_H) : am_Me am_Pr none 0 0 0 0 22 [.int c] h (fun r h' => r = some (.int (isDg c)) ∧ (∀ q, q ∉ ([] : List Nat) → h'[q]? = h[q]?) ∧ h'.length = h.length) := by
  refine am_enter (d := hd_Mo_isDigit) rfl (by decide +kernel) (Nat.le_of_ble_eq_true rfl) ?_
  show am_S _ _ _ _ _ _ _ (0, [some (.int c)], [], h, 0, 0) _
  refine am_steps ok_Mo_isDigit 3 (x' := (if (c : Int32) < 48 then 16 else 6, [some (.int c)], [], h, 0, 0)) rfl (Nat.le_of_ble_eq_true rfl) (Nat.le_of_ble_eq_true rfl) ?_
  refine am_if (fun hc1 => ?_) (fun hc1 => ?_)
  · refine am_steps ok_Mo_isDigit 1 (x' := (17, [some (.int c)], [.int 0], h, 0, 0)) rfl (Nat.le_of_ble_eq_true rfl) (Nat.le_of_ble_eq_true rfl) ?_
    exact am_ret ok_Mo_isDigit rfl (Nat.le_of_ble_eq_true rfl) (Nat.le_of_ble_eq_true rfl) ⟨by unfold isDg; rw [if_pos hc1], fun _ _ => rfl, rfl⟩
  · refine am_steps ok_Mo_isDigit 3 (x' := (if (57 : Int32) < c then 16 else 12, [some (.int c)], [], h, 0, 0)) rfl (Nat.le_of_ble_eq_true rfl) (Nat.le_of_ble_eq_true rfl) ?_
    refine am_if (fun hc2 => ?_) (fun hc2 => ?_)
    · refine am_steps ok_Mo_isDigit 1 (x' := (17, [some (.int c)], [.int 0], h, 0, 0)) rfl (Nat.le_of_ble_eq_true rfl) (Nat.le_of_ble_eq_true rfl) ?_
      exact am_ret ok_Mo_isDigit rfl (Nat.le_of_ble_eq_true rfl) (Nat.le_of_ble_eq_true rfl) ⟨by unfold isDg; rw [if_neg hc1, if_pos hc2], fun _ _ => rfl, rfl⟩
    · refine am_steps ok_Mo_isDigit 2 (x' := (17, [some (.int c)], [.int 1], h, 0, 0)) rfl (Nat.le_of_ble_eq_true rfl) (Nat.le_of_ble_eq_true rfl) ?_
      exact am_ret ok_Mo_isDigit rfl (Nat.le_of_ble_eq_true rfl) (Nat.le_of_ble_eq_true rfl) ⟨by unfold isDg; rw [if_neg hc1, if_neg hc2], fun _ _ => rfl, rfl⟩
set_option maxHeartbeats 4000000 in
set_option maxRecDepth 100000 in
theorem w_isDigit (c : Int32) (h : am_H) : am_Me am_Pr none 0 0 0 0 201 [.int c] h (fun r h' => r = some (.int (isDg c)) ∧ (∀ q, q ∉ ([] : List Nat) → h'[q]? = h[q]?) ∧ h'.length = h.length) := by
  refine am_enter (d := hd_Me_isDigit) rfl (by decide +kernel) (Nat.le_of_ble_eq_true rfl) ?_
  show am_S _ _ _ _ _ _ _ (0, [some (.int c)], [], h, 0, 0) _
  refine am_steps ok_Me_isDigit 3 (x' := (if (c : Int32) < 48 then 16 else 6, [some (.int c)], [], h, 0, 0)) rfl (Nat.le_of_ble_eq_true rfl) (Nat.le_of_ble_eq_true rfl) ?_
  refine am_if (fun hc1 => ?_) (fun hc1 => ?_)
  · refine am_steps ok_Me_isDigit 1 (x' := (17, [some (.int c)], [.int 0], h, 0, 0)) rfl (Nat.le_of_ble_eq_true rfl) (Nat.le_of_ble_eq_true rfl) ?_
    exact am_ret ok_Me_isDigit rfl (Nat.le_of_ble_eq_true rfl) (Nat.le_of_ble_eq_true rfl) ⟨by unfold isDg; rw [if_pos hc1], fun _ _ => rfl, rfl⟩
  · refine am_steps ok_Me_isDigit 3 (x' := (if (57 : Int32) < c then 16 else 12, [some (.int c)], [], h, 0, 0)) rfl (Nat.le_of_ble_eq_true rfl) (Nat.le_of_ble_eq_true rfl) ?_
    refine am_if (fun hc2 => ?_) (fun hc2 => ?_)
    · refine am_steps ok_Me_isDigit 1 (x' := (17, [some (.int c)], [.int 0], h, 0, 0)) rfl (Nat.le_of_ble_eq_true rfl) (Nat.le_of_ble_eq_true rfl) ?_
      exact am_ret ok_Me_isDigit rfl (Nat.le_of_ble_eq_true rfl) (Nat.le_of_ble_eq_true rfl) ⟨by unfold isDg; rw [if_neg hc1, if_pos hc2], fun _ _ => rfl, rfl⟩
    · refine am_steps ok_Me_isDigit 2 (x' := (17, [some (.int c)], [.int 1], h, 0, 0)) rfl (Nat.le_of_ble_eq_true rfl) (Nat.le_of_ble_eq_true rfl) ?_
      exact am_ret ok_Me_isDigit rfl (Nat.le_of_ble_eq_true rfl) (Nat.le_of_ble_eq_true rfl) ⟨by unfold isDg; rw [if_neg hc1, if_neg hc2], fun _ _ => rfl, rfl⟩
