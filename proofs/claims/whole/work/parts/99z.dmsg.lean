/-! The reference: is it a message? -/
theorem sl_split (M : List Nat) (a k j : Nat) : sl M a (k + j) = sl M a k ++ sl M (a + k) j := by
  unfold sl
  rw [List.take_add, List.drop_drop]
theorem num_fold : ∀ (b : List Nat) (v : Nat), b.foldl (fun v z => v * 10 + z) v = v * 10 ^ b.length + num b := by
  intro b
  induction b with
  | nil => intro v; simp [num]
  | cons z b ih =>
    intro v
    unfold num
    rw [List.foldl_cons, List.foldl_cons, ih, ih, List.length_cons, Nat.pow_succ, Nat.add_mul, Nat.mul_assoc, Nat.mul_comm 10 (10 ^ b.length), Nat.zero_mul, Nat.zero_add, Nat.add_assoc]
theorem num_append (a b : List Nat) : num (a ++ b) = num a * 10 ^ b.length + num b := by
  unfold num
  rw [List.foldl_append]
  exact num_fold b _
theorem isD_append (a b : List Nat) : isD (a ++ b) = (isD a && isD b) := by
  unfold isD
  rw [List.all_append]
section DFL
variable {s : mS} {M : List Nat} {n : Nat}
theorem chB_lt (hT : TXT (s.2.2.1 24) n M) {j : Nat} (hj : j < n) : M.getD j 0 < 36 := by
  obtain ⟨z, hz⟩ := get_lt (ks := M) (j := j) (by rw [hT.len]; exact hj)
  rw [List.getD_eq_getElem?_getD, hz]
  exact hT.m36 z (List.mem_of_getElem? hz)
theorem byte_eq {z w : Nat} (hz : z < 36) (hw : w < 36) : nI (chr36 z) = nI (chr36 w) ↔ z = w := by
  have a1 := chr36_lt hz
  have a2 := chr36_lt hw
  exact ⟨fun h => chr36_inj (nI_inj (by omega) (by omega) h), fun h => by rw [h]⟩
theorem d_legs_loop (hT : TXT (s.2.2.1 24) n M) (hn : n ≤ 400) {m : Nat} (hm : m ≤ 4) (h16 : s.2.2.1 24 16 - 48 = nI m) (hl : 17 + 26 * m ≤ n) : ∀ (d fu k : Nat), m - k = d → d < fu → k ≤ m → l_Mo_areFields_158 fu (b2i (legsOk M k)) (nI k) s = some (b2i (legsOk M m)) := by
  have x16 : am_ix 16 400 = some 16 := by decide
  intro d
  induction d with
  | zero =>
    intro fu k hd hf hk
    obtain ⟨fu, rfl⟩ : ∃ f, fu = f + 1 := ⟨fu - 1, by omega⟩
    have e : k = m := by omega
    subst e
    unfold l_Mo_areFields_158
    rw [x16, Option.bind_some, h16, if_pos (nI_le0 (by omega) (by omega) (by omega))]
  | succ d ih =>
    intro fu k hd hf hk
    obtain ⟨fu, rfl⟩ : ∃ f, fu = f + 1 := ⟨fu - 1, by omega⟩
    have IH := ih fu (k + 1) (by omega) (by omega) (by omega)
    have e1 : (17 : Int32) + 26 * nI k + 11 = nI (17 + 26 * k + 11) := by
      rw [show (26 : Int32) = nI 26 from rfl, nI_mul, show (17 : Int32) = nI 17 from rfl, nI_add', show (11 : Int32) = nI 11 from rfl, nI_add']
    unfold l_Mo_areFields_158
    rw [x16, Option.bind_some, h16, if_neg (nI_ngt (by omega) (by omega) (by omega)), nI_add1, e1, show (15 : Int32) = nI 15 from rfl, d_dgs hT hn _ 15 (by omega)]
    have IH' : l_Mo_areFields_158 fu (b2i (legsOk M k && isD (sl M (17 + 26 * k + 11) 15))) (nI (k + 1)) s = some (b2i (legsOk M m)) := IH
    cases hb : legsOk M k with
    | false =>
      rw [if_pos (by decide), Option.bind_some]
      rw [hb, Bool.false_and] at IH'
      exact IH'
    | true =>
      rw [if_neg (by decide), Option.bind_some]
      rw [hb, Bool.true_and] at IH'
      cases hd : isD (sl M (17 + 26 * k + 11) 15) with
      | true => rw [if_neg (by decide), Option.bind_some]; rw [hd] at IH'; exact IH'
      | false => rw [if_pos (by decide), Option.bind_some]; rw [hd] at IH'; exact IH'
theorem bb {b : Bool} : (if b2i b = 0 ∨ b2i b = 1 then some (b2i b) else none) = some (b2i b) := if_pos (by cases b <;> decide)
theorem b16 (hT : TXT (s.2.2.1 24) n M) {j : Nat} (hj : j < n) (h : M.getD j 0 < 10) : s.2.2.1 24 j - 48 = nI (M.getD j 0) := by
  rw [hT.b hj]
  unfold chB chr36
  rw [if_pos h, show (48 : Int32) = nI 48 from rfl, nI_sub' (by omega)]
  congr 1
  omega
set_option maxHeartbeats 1000000 in
theorem d_flds (hT : TXT (s.2.2.1 24) n M) (hn : n ≤ 400) {k : Nat} (hk : k < 15) (h4 : s.1 4 = nI k) (hlen : n = 17 + fLen k M) (h5 : k = 5 → (1 ≤ M.getD 15 0 ∧ M.getD 15 0 ≤ 9) ∧ (1 ≤ M.getD 16 0 ∧ M.getD 16 0 ≤ 4)) : ∃ b, d_Mo_areFields s = some (b2i b) ∧ (b = true ↔ fOk k M ∧ (k = 1 → M.getD 18 0 = 28 ∨ (num (sl M 19 15) = 0 ∧ num (sl M 34 2) = 0))) := by
  have x18 : am_ix 18 400 = some 18 := by decide
  have x23 : am_ix 23 400 = some 23 := by decide
  have e17 : (17 : Int32) = nI 17 := rfl
  have e15 : (15 : Int32) = nI 15 := rfl
  have e19 : (19 : Int32) = nI 19 := rfl
  have e18 : (18 : Int32) = nI 18 := rfl
  have e22 : (22 : Int32) = nI 22 := rfl
  unfold d_Mo_areFields
  rw [h4]
  rcases (show k = 0 ∨ k = 1 ∨ k = 2 ∨ k = 3 ∨ k = 4 ∨ k = 5 ∨ k = 6 ∨ k = 7 ∨ k = 8 ∨ k = 9 ∨ k = 10 ∨ k = 11 ∨ k = 12 ∨ k = 13 ∨ k = 14 by omega) with rfl | rfl | rfl | rfl | rfl | rfl | rfl | rfl | rfl | rfl | rfl | rfl | rfl | rfl | rfl
  case inl => exact ⟨true, by rw [if_neg (by decide), if_neg (by decide), if_neg (by decide), if_neg (by decide), if_neg (by decide), if_neg (by decide), if_neg (by decide)]; rfl, ⟨fun _ => ⟨trivial, fun c => by omega⟩, fun _ => rfl⟩⟩
  case inr.inl =>
    have hl : n = 38 := hlen
    rw [if_pos (by decide), x18, Option.bind_some, hT.b (show 18 < n by omega)]
    have h36 := chB_lt hT (j := 18) (by omega)
    have hC : chB M 18 = 67 ↔ M.getD 18 0 = 12 := byte_eq (w := 12) h36 (by omega)
    have hS : chB M 18 = 83 ↔ M.getD 18 0 = 28 := byte_eq (w := 28) h36 (by omega)
    have hsp : sl M 19 17 = sl M 19 15 ++ sl M 34 2 := sl_split M 19 15 2
    have hdd : isD (sl M 19 17) = (isD (sl M 19 15) && isD (sl M 34 2)) := by rw [hsp, isD_append]
    have hdg : d_Mo_areDigits 19 17 s = some (b2i (isD (sl M 19 17))) := d_dgs hT hn 19 17 (by omega)
    by_cases c12 : M.getD 18 0 = 12
    · rw [if_neg (fun w => w (hC.mpr c12)), Option.bind_some, if_pos (by decide), hdg, Option.bind_some]
      cases hD : isD (sl M 19 17) with
      | false =>
        rw [hD] at hdd
        refine ⟨false, by rw [if_pos (by decide)]; rfl, ⟨fun w => (by cases w), fun w => ?_⟩⟩
        have : fOk 1 M := w.1
        have h1 := this.2
        rw [h1.1, h1.2] at hdd; cases hdd
      | true =>
        have hD' := hD
        rw [hdd, Bool.and_eq_true] at hD'
        have n1 := num_lt 15 (sl M 19 15) (sl_len (by rw [hT.len]; omega)) hD'.1
        have n2 := num_lt 2 (sl M 34 2) (sl_len (by rw [hT.len]; omega)) hD'.2
        rw [show (10 : Nat) ^ 15 = 1000000000000000 by decide] at n1
        rw [show (10 : Nat) ^ 2 = 100 by decide] at n2
        have hnm : num (sl M 19 17) = num (sl M 19 15) * 100 + num (sl M 34 2) := by
          rw [hsp, num_append, sl_len (M := M) (a := 34) (k := 2) (by rw [hT.len]; omega)]
        rw [if_neg (by decide), if_neg (by decide), show d_Mo_number 19 17 s = some (lI (num (sl M 19 17) : Nat)) from d_nmb hT hn 19 17 (by omega) hD, Option.bind_some]
        by_cases hz : num (sl M 19 17) = 0
        · refine ⟨true, by rw [if_neg (fun w => w ((cmp0_eq (by omega)).mpr (by omega)))]; rfl, ⟨fun _ => ⟨⟨Or.inr c12, hD'.1, hD'.2⟩, fun _ => Or.inr (by omega)⟩, fun _ => rfl⟩⟩
        · refine ⟨false, by rw [if_pos (fun w => hz (by have := (cmp0_eq (by omega)).mp w; omega))]; rfl, ⟨fun w => (by cases w), fun w => ?_⟩⟩
          have := w.2 rfl
          omega
    · rw [if_pos (fun w => c12 (hC.mp w)), Option.bind_some, if_neg (by decide)]
      by_cases c28 : M.getD 18 0 = 28
      · rw [if_neg (fun w => w (hS.mpr c28)), hdg, Option.bind_some]
        cases hD : isD (sl M 19 17) with
        | false =>
          rw [hD] at hdd
          refine ⟨false, by rw [if_pos (by decide)]; rfl, ⟨fun w => (by cases w), fun w => ?_⟩⟩
          have : fOk 1 M := w.1
          have h1 := this.2
          rw [h1.1, h1.2] at hdd; cases hdd
        | true =>
          have hD' := hD
          rw [hdd, Bool.and_eq_true] at hD'
          exact ⟨true, by rw [if_neg (by decide), if_pos (by decide)]; rfl, ⟨fun _ => ⟨⟨Or.inl c28, hD'.1, hD'.2⟩, fun _ => Or.inl c28⟩, fun _ => rfl⟩⟩
      · refine ⟨false, by rw [if_pos (fun w => c28 (hS.mp w))]; rfl, ⟨fun w => (by cases w), fun w => ?_⟩⟩
        have : fOk 1 M := w.1
        exact absurd this.1 (fun q => q.elim c28 c12)
  case inr.inr.inl =>
    have hl : n = 37 := hlen
    rw [if_neg (by decide), if_pos (by decide), show d_Mo_areDigits 18 17 s = some (b2i (isD (sl M 18 17))) from d_dgs hT hn 18 17 (by omega), Option.bind_some, bb]
    have hdd : isD (sl M 18 17) = (isD (sl M 18 15) && isD (sl M 33 2)) := by rw [show (17 : Nat) = 15 + 2 from rfl, sl_split, isD_append]
    exact ⟨_, rfl, by rw [hdd, Bool.and_eq_true]; exact ⟨fun w => ⟨w, fun c => by omega⟩, fun w => w.1⟩⟩
  case inr.inr.inr.inl =>
    have hl : n = 39 := hlen
    rw [if_neg (by decide), if_neg (by decide), if_pos (by decide), show d_Mo_areDigits 22 15 s = some (b2i (isD (sl M 22 15))) from d_dgs hT hn 22 15 (by omega), Option.bind_some, bb]
    exact ⟨_, rfl, ⟨fun w => ⟨w, fun c => by omega⟩, fun w => w.1⟩⟩
  case inr.inr.inr.inr.inl =>
    have hl : n = 39 := hlen
    rw [if_neg (by decide), if_neg (by decide), if_pos (by decide), show d_Mo_areDigits 22 15 s = some (b2i (isD (sl M 22 15))) from d_dgs hT hn 22 15 (by omega), Option.bind_some, bb]
    exact ⟨_, rfl, ⟨fun w => ⟨w, fun c => by omega⟩, fun w => w.1⟩⟩
  case inr.inr.inr.inr.inr.inl =>
    have hl : n = 17 + (2 + 26 * M.getD 16 0) := hlen
    obtain ⟨h15, h16⟩ := h5 rfl
    have hlo := d_legs_loop hT hn h16.2 (b16 hT (j := 16) (by omega) (by omega)) (by omega) _ 100000 0 rfl (by omega) (by omega)
    have hlo' : l_Mo_areFields_158 100000 1 0 s = some (b2i (legsOk M (M.getD 16 0))) := hlo
    rw [if_neg (by decide), if_neg (by decide), if_neg (by decide), if_pos (by decide), hlo', Option.bind_some, bb]
    exact ⟨_, rfl, ⟨fun w => ⟨⟨h15, h16, w⟩, fun c => by omega⟩, fun w => w.1.2.2⟩⟩
  case inr.inr.inr.inr.inr.inr.inl => exact ⟨true, by rw [if_neg (by decide), if_neg (by decide), if_neg (by decide), if_neg (by decide), if_neg (by decide), if_neg (by decide), if_neg (by decide)]; rfl, ⟨fun _ => ⟨trivial, fun c => by omega⟩, fun _ => rfl⟩⟩
  case inr.inr.inr.inr.inr.inr.inr.inl => exact ⟨true, by rw [if_neg (by decide), if_neg (by decide), if_neg (by decide), if_neg (by decide), if_neg (by decide), if_neg (by decide), if_neg (by decide)]; rfl, ⟨fun _ => ⟨trivial, fun c => by omega⟩, fun _ => rfl⟩⟩
  case inr.inr.inr.inr.inr.inr.inr.inr.inl =>
    have hl : n = 26 := hlen
    have h36 := chB_lt hT (j := 23) (by omega)
    rw [if_neg (by decide), if_neg (by decide), if_neg (by decide), if_neg (by decide), if_pos (by decide), x23, Option.bind_some, hT.b (show 23 < n by omega)]
    have hch := chr36_lt h36
    by_cases hlo : 1 ≤ M.getD 23 0
    · by_cases hhi : M.getD 23 0 ≤ 9
      · have ec : chr36 (M.getD 23 0) = 48 + M.getD 23 0 := by unfold chr36; rw [if_pos (by omega)]
        refine ⟨true, ?_, ⟨fun _ => ⟨⟨hlo, hhi⟩, fun c => by omega⟩, fun _ => rfl⟩⟩
        unfold chB
        rw [ec, if_neg (show ¬ nI (48 + M.getD 23 0) < 49 from fun c => by have := (nI_lt' (a := 48 + M.getD 23 0) (b := 49) (by omega) (by omega)).mp c; omega), if_neg (show ¬ (57 : Int32) < nI (48 + M.getD 23 0) from fun c => by have := (nI_lt' (a := 57) (b := 48 + M.getD 23 0) (by omega) (by omega)).mp c; omega)]; rfl
      · have ec : chr36 (M.getD 23 0) = 55 + M.getD 23 0 := by unfold chr36; rw [if_neg (by omega)]
        refine ⟨false, ?_, ⟨fun w => (by cases w), fun w => by have := w.1.2; omega⟩⟩
        unfold chB
        rw [ec, if_neg (show ¬ nI (55 + M.getD 23 0) < 49 from fun c => by have := (nI_lt' (a := 55 + M.getD 23 0) (b := 49) (by omega) (by omega)).mp c; omega), if_pos (show (57 : Int32) < nI (55 + M.getD 23 0) from (nI_lt' (a := 57) (b := 55 + M.getD 23 0) (by omega) (by omega)).mpr (by omega))]; rfl
    · have hz : M.getD 23 0 = 0 := by omega
      refine ⟨false, ?_, ⟨fun w => (by cases w), fun w => by have := w.1.1; omega⟩⟩
      unfold chB
      rw [hz]; rfl
  case inr.inr.inr.inr.inr.inr.inr.inr.inr.inl =>
    have hl : n = 36 := hlen
    rw [if_neg (by decide), if_neg (by decide), if_neg (by decide), if_neg (by decide), if_neg (by decide), if_pos (by decide), show d_Mo_areDigits 19 15 s = some (b2i (isD (sl M 19 15))) from d_dgs hT hn 19 15 (by omega), Option.bind_some, bb]
    exact ⟨_, rfl, ⟨fun w => ⟨w, fun c => by omega⟩, fun w => w.1⟩⟩
  case inr.inr.inr.inr.inr.inr.inr.inr.inr.inr.inl => exact ⟨true, by rw [if_neg (by decide), if_neg (by decide), if_neg (by decide), if_neg (by decide), if_neg (by decide), if_neg (by decide), if_neg (by decide)]; rfl, ⟨fun _ => ⟨trivial, fun c => by omega⟩, fun _ => rfl⟩⟩
  case inr.inr.inr.inr.inr.inr.inr.inr.inr.inr.inr.inl =>
    have hl : n = 35 := hlen
    rw [if_neg (by decide), if_neg (by decide), if_neg (by decide), if_neg (by decide), if_neg (by decide), if_neg (by decide), if_pos (by decide), show d_Mo_areDigits 18 15 s = some (b2i (isD (sl M 18 15))) from d_dgs hT hn 18 15 (by omega), Option.bind_some, bb]
    exact ⟨_, rfl, ⟨fun w => ⟨w, fun c => by omega⟩, fun w => w.1⟩⟩
  case inr.inr.inr.inr.inr.inr.inr.inr.inr.inr.inr.inr.inl =>
    have hl : n = 35 := hlen
    rw [if_neg (by decide), if_neg (by decide), if_neg (by decide), if_neg (by decide), if_neg (by decide), if_neg (by decide), if_pos (by decide), show d_Mo_areDigits 18 15 s = some (b2i (isD (sl M 18 15))) from d_dgs hT hn 18 15 (by omega), Option.bind_some, bb]
    exact ⟨_, rfl, ⟨fun w => ⟨w, fun c => by omega⟩, fun w => w.1⟩⟩
  case inr.inr.inr.inr.inr.inr.inr.inr.inr.inr.inr.inr.inr.inl => exact ⟨true, by rw [if_neg (by decide), if_neg (by decide), if_neg (by decide), if_neg (by decide), if_neg (by decide), if_neg (by decide), if_neg (by decide)]; rfl, ⟨fun _ => ⟨trivial, fun c => by omega⟩, fun _ => rfl⟩⟩
  case inr.inr.inr.inr.inr.inr.inr.inr.inr.inr.inr.inr.inr.inr => exact ⟨true, by rw [if_neg (by decide), if_neg (by decide), if_neg (by decide), if_neg (by decide), if_neg (by decide), if_neg (by decide), if_neg (by decide)]; rfl, ⟨fun _ => ⟨trivial, fun c => by omega⟩, fun _ => rfl⟩⟩
end DFL
