/-! The reference: whether it is a message. -/
def dTail (q : mS) : Option (Int32 × mS) := ((d_Mo_areFields q).bind fun q45 => (if (q45 : Int32) = 0 then (some (0, q)) else ((d_Mo_areDigits ((q.1 3) - 2) 2 q).bind fun q57 => (if (q57 : Int32) = 0 then (some (0, q)) else ((d_Mo_leavesOne q).bind fun q69 => (if (q69 : Int32) = 0 then (some (0, q)) else (some (1, q))))))))
theorem d_tail {q : mS} {M : List Nat} {n k : Nat} (hT : TXT (q.2.2.1 24) n M) (hn : n ≤ 400) (ln : q.1 3 = nI n) (hk : k < 15) (h4 : q.1 4 = nI k) (hm : mt (chB M 0) (chB M 1) (chB M 2) k) (hlen : n = 17 + fLen k M) (h5 : k = 5 → (1 ≤ M.getD 15 0 ∧ M.getD 15 0 ≤ 9) ∧ (1 ≤ M.getD 16 0 ∧ M.getD 16 0 ≤ 4)) : (okM k M ∧ dTail q = some (1, q)) ∨ (¬ okM k M ∧ dTail q = some (0, q)) := by
  obtain ⟨b, e, hb⟩ := d_flds hT hn hk h4 hlen h5
  have hl := hT.len
  have e2 : d_Mo_areDigits (q.1 3 - 2) 2 q = some (b2i (isD (sl M (M.length - 2) 2))) := by
    rw [ln, show nI n - 2 = nI (n - 2) from nI_sub' (a := n) (b := 2) (by omega), hl]
    exact d_dgs hT hn (n - 2) 2 (by omega)
  unfold dTail
  rw [e, Option.bind_some]
  cases b with
  | false =>
    rw [if_pos (by decide)]
    refine Or.inr ⟨fun ho => ?_, rfl⟩
    have := hb.mpr ⟨ho.ok, ho.ast⟩
    cases this
  | true =>
    have hb' := hb.mp rfl
    rw [if_neg (by decide), e2, Option.bind_some]
    cases hd : isD (sl M (M.length - 2) 2) with
    | false =>
      rw [if_pos (by decide)]
      exact Or.inr ⟨fun ho => (by have := ho.dig; rw [hd] at this; cases this), rfl⟩
    | true =>
      rw [if_neg (by decide), d_chk hT hn ln, Option.bind_some]
      by_cases hc : chk M = 1
      · rw [decide_eq_true hc, if_neg (by decide)]
        exact Or.inl ⟨⟨⟨hk, hm⟩, by omega, hb'.1, hb'.2, hd, hc⟩, rfl⟩
      · rw [decide_eq_false hc, if_pos (by decide)]
        exact Or.inr ⟨fun ho => hc ho.chk, rfl⟩
theorem fl_tab {k : Nat} (hk : k < 15) (h5 : k ≠ 5) (M : List Nat) : am_fields.getD k 0 = nI (fLen k M) ∧ fLen k M ≤ 22 := by
  rcases (show k = 0 ∨ k = 1 ∨ k = 2 ∨ k = 3 ∨ k = 4 ∨ k = 6 ∨ k = 7 ∨ k = 8 ∨ k = 9 ∨ k = 10 ∨ k = 11 ∨ k = 12 ∨ k = 13 ∨ k = 14 by omega) with rfl | rfl | rfl | rfl | rfl | rfl | rfl | rfl | rfl | rfl | rfl | rfl | rfl | rfl <;> exact ⟨rfl, by simp only [fLen]; omega⟩
theorem byte_lo {z : Nat} (hz : z < 36) : nI (chr36 z) < 49 ↔ z = 0 := by
  have := chr36_lt hz
  rw [show (49 : Int32) = nI 49 from rfl, nI_lt' (by omega) (by omega)]
  unfold chr36
  split <;> omega
theorem byte_hi {z : Nat} (hz : z < 36) : (57 : Int32) < nI (chr36 z) ↔ 9 < z := by
  have := chr36_lt hz
  rw [show (57 : Int32) = nI 57 from rfl, nI_lt' (by omega) (by omega)]
  unfold chr36
  split <;> omega
theorem byte_4 {z : Nat} (hz : z < 36) : nI (chr36 z) ≤ 52 ↔ z ≤ 4 := by
  have := chr36_lt hz
  rw [show (52 : Int32) = nI 52 from rfl, nI_le' (by omega) (by omega)]
  unfold chr36
  split <;> omega
set_option maxHeartbeats 1000000 in
theorem d_msg {s : mS} {n : Nat} (ln : s.1 3 = nI n) (hn : 1 ≤ n ∧ n ≤ 400) : ∃ r s', d_Mo_isMessage s = some (r, s') ∧ mX [4] [] [] [] s s' ∧ ((r = 0 ∧ ∀ M k, TXT (s.2.2.1 24) n M → ¬ okM k M) ∨ (r = 1 ∧ ∃ M k, TXT (s.2.2.1 24) n M ∧ okM k M ∧ s'.1 4 = nI k)) := by
  have x15 : am_ix 15 400 = some 15 := by decide
  have x16 : am_ix 16 400 = some 16 := by decide
  have hu : (if s.1 3 < 17 then some (0 : Int32) else some 1) = some (b2i (decide (17 ≤ n))) := by
    rw [ln]
    by_cases c : 17 ≤ n
    · rw [if_neg (show ¬ nI n < 17 from fun w => by have := (nI_lt' (a := n) (b := 17) (by omega) (by omega)).mp w; omega), decide_eq_true c]; rfl
    · rw [if_pos (show nI n < 17 from (nI_lt' (a := n) (b := 17) (by omega) (by omega)).mpr (by omega)), decide_eq_false c]; rfl
  unfold d_Mo_isMessage
  rw [hu, Option.bind_some]
  have hlp := d_sgn_loop ln hn.2 _ 100000 0 (decide (17 ≤ n)) rfl (by omega) (by omega)
  rcases hlp with ⟨h17, hall, el⟩ | ⟨hnot, el⟩
  case inr =>
    have el' : l_Mo_isMessage_17 100000 (b2i (decide (17 ≤ n))) 0 s = some 0 := el
    rw [el', Option.bind_some, if_neg (by decide)]
    refine ⟨0, s, rfl, mX.rf, Or.inl ⟨rfl, fun M k hM ho => hnot ⟨?_, fun i _ hi => ?_⟩⟩⟩
    · have := ho.len
      have := hM.len
      exact decide_eq_true (by omega)
    · obtain ⟨z, hz⟩ := get_lt (ks := M) (j := i) (by rw [hM.len]; exact hi)
      exact ⟨z, hM.m36 z (List.mem_of_getElem? hz), hM.tx i z hz⟩
  rw [decide_eq_true_iff] at h17
  have el' : l_Mo_isMessage_17 100000 (b2i (decide (17 ≤ n))) 0 s = some 1 := el
  rw [el', Option.bind_some, if_pos (by decide)]
  obtain ⟨M, m1, m2, m3⟩ := txt_ex (f := s.2.2.1 24) (n := n) (fun j hj => hall j (by omega) hj)
  have hT0 : TXT (s.2.2.1 24) n M := ⟨m1, m2, m3⟩
  have nope : (∀ k, ¬ okM k M) → ∀ M' k, TXT (s.2.2.1 24) n M' → ¬ okM k M' := fun h M' k hM' ho => by
    rw [hM'.un hT0] at ho
    exact h k ho
  obtain ⟨s1, r, k1, k2, k3, k4⟩ := d_kind s
  have hT : TXT (s1.2.2.1 24) n M := ⟨m1, m2, fun j z hj => by rw [k4.2.2.1 24 (by simp)]; exact m3 j z hj⟩
  have ln1 : s1.1 3 = nI n := (k4.1 _ (by decide)).trans ln
  rw [hT0.b (by omega), hT0.b (by omega), hT0.b (by omega)] at k3
  rw [k1, Option.bind_some, k2]
  rcases k3 with ⟨kn, knone⟩ | ⟨k, kl, km, ks⟩
  · subst kn
    rw [if_neg (show ¬ (0 : Int32) ≤ oI none by decide)]
    exact ⟨0, s1, rfl, k4, Or.inl ⟨rfl, nope (fun k ho => knone k ho.kd.1 ho.kd.2)⟩⟩
  · subst ks
    have kun : ∀ k', okM k' M → k' = k := fun k' ho => mt_un ho.kd.1 kl ho.kd.2 km
    have fin : ∀ (e : Option (Int32 × mS)), (n = 17 + fLen k M ∧ (k = 5 → (1 ≤ M.getD 15 0 ∧ M.getD 15 0 ≤ 9) ∧ (1 ≤ M.getD 16 0 ∧ M.getD 16 0 ≤ 4)) → e = dTail s1) → (¬ (n = 17 + fLen k M ∧ (k = 5 → (1 ≤ M.getD 15 0 ∧ M.getD 15 0 ≤ 9) ∧ (1 ≤ M.getD 16 0 ∧ M.getD 16 0 ≤ 4))) → e = some (0, s1)) → ∃ r s', e = some (r, s') ∧ mX [4] [] [] [] s s' ∧ ((r = 0 ∧ ∀ M k, TXT (s.2.2.1 24) n M → ¬ okM k M) ∨ (r = 1 ∧ ∃ M k, TXT (s.2.2.1 24) n M ∧ okM k M ∧ s'.1 4 = nI k)) := fun e h1 h2 => by
      by_cases c : n = 17 + fLen k M ∧ (k = 5 → (1 ≤ M.getD 15 0 ∧ M.getD 15 0 ≤ 9) ∧ (1 ≤ M.getD 16 0 ∧ M.getD 16 0 ≤ 4))
      · rw [h1 c]
        rcases d_tail hT hn.2 ln1 kl k2 km c.1 c.2 with ⟨a, b⟩ | ⟨a, b⟩
        · exact ⟨1, s1, b, k4, Or.inr ⟨rfl, M, k, hT0, a, k2⟩⟩
        · exact ⟨0, s1, b, k4, Or.inl ⟨rfl, nope (fun k' ho => by
            have := kun k' ho
            subst this
            exact a ho)⟩⟩
      · rw [h2 c]
        refine ⟨0, s1, rfl, k4, Or.inl ⟨rfl, nope (fun k' ho => ?_)⟩⟩
        have := kun k' ho
        subst this
        refine c ⟨by have := ho.len; omega, fun h5 => ?_⟩
        subst h5
        have : fOk 5 M := ho.ok
        exact ⟨this.1, this.2.1⟩
    rw [if_pos (show (0 : Int32) ≤ oI (some k) from nI_le0 (a := 0) (by omega) (by omega) (by omega)), show am_ix (oI (some k)) 15 = some k from ix_N kl (by omega), Option.bind_some, ln1]
    by_cases k5 : k = 5
    · subst k5
      rw [if_neg (show ¬ ¬ oI (some 5) = 5 from fun w => w rfl)]
      have h15 := chB_lt hT (j := 15) (by omega)
      refine fin _ (fun c => ?_) (fun c => ?_)
      · have hl : n = 17 + (2 + 26 * M.getD 16 0) := c.1
        obtain ⟨c15, c16⟩ := c.2 rfl
        have hm4 : M.getD 16 0 < 10 := by omega
        rw [if_neg (show ¬ nI n < 19 from fun w => by have := (nI_lt' (a := n) (b := 19) (by omega) (by omega)).mp w; omega), x15, Option.bind_some, hT.b (show 15 < n by omega), x16, Option.bind_some, show chB M 15 = nI (chr36 (M.getD 15 0)) from rfl, if_neg (fun w => by have := (byte_lo h15).mp w; omega), if_neg (fun w => by have := (byte_hi h15).mp w; omega), b16 hT (show 16 < n by omega) hm4, hT.b (show 16 < n by omega), show chB M 16 = nI (chr36 (M.getD 16 0)) from rfl, if_neg (fun w => by have := (byte_lo (by omega)).mp w; omega), if_pos ((byte_4 (by omega)).mpr c16.2)]
        have ef : (15 : Int32) + (am_fields.getD 5 0 + 26 * nI (M.getD 16 0)) + 2 = nI n := by
          rw [show am_fields.getD 5 0 = nI 2 from rfl, show (26 : Int32) = nI 26 from rfl, nI_mul, nI_add', show (15 : Int32) = nI 15 from rfl, nI_add', show (2 : Int32) = nI 2 from rfl, nI_add']
          congr 1
          omega
        rw [ef, if_neg (fun w => w rfl)]
        unfold dTail
        rw [ln1]
      · by_cases d19 : n < 19
        · rw [if_pos (show nI n < 19 from (nI_lt' (a := n) (b := 19) (by omega) (by omega)).mpr d19)]
        · have h16 := chB_lt hT (j := 16) (by omega)
          rw [if_neg (show ¬ nI n < 19 from fun w => d19 ((nI_lt' (a := n) (b := 19) (by omega) (by omega)).mp w)), x15, Option.bind_some, hT.b (show 15 < n by omega), x16, Option.bind_some, show chB M 15 = nI (chr36 (M.getD 15 0)) from rfl]
          by_cases e1 : M.getD 15 0 = 0
          · rw [if_pos ((byte_lo h15).mpr e1)]
          rw [if_neg (fun w => e1 ((byte_lo h15).mp w))]
          by_cases e2 : 9 < M.getD 15 0
          · rw [if_pos ((byte_hi h15).mpr e2)]
          rw [if_neg (fun w => e2 ((byte_hi h15).mp w))]
          by_cases e3 : M.getD 16 0 = 0
          · rw [if_pos (show s1.2.2.1 24 16 < 49 by rw [hT.b (show 16 < n by omega)]; exact (byte_lo h16).mpr e3)]
          rw [if_neg (show ¬ s1.2.2.1 24 16 < 49 by rw [hT.b (show 16 < n by omega)]; exact fun w => e3 ((byte_lo h16).mp w))]
          by_cases e4 : M.getD 16 0 ≤ 4
          · rw [if_pos (show s1.2.2.1 24 16 ≤ 52 by rw [hT.b (show 16 < n by omega)]; exact (byte_4 h16).mpr e4), b16 hT (show 16 < n by omega) (by omega)]
            have ef : (15 : Int32) + (am_fields.getD 5 0 + 26 * nI (M.getD 16 0)) + 2 = nI (17 + (2 + 26 * M.getD 16 0)) := by
              rw [show am_fields.getD 5 0 = nI 2 from rfl, show (26 : Int32) = nI 26 from rfl, nI_mul, nI_add', show (15 : Int32) = nI 15 from rfl, nI_add', show (2 : Int32) = nI 2 from rfl, nI_add']
              congr 1
              omega
            rw [ef, if_pos (show ¬ nI n = nI (17 + (2 + 26 * M.getD 16 0)) from fun w => c ⟨show n = 17 + (2 + 26 * M.getD 16 0) from nI_inj (by omega) (by omega) w, fun _ => ⟨by omega, by omega⟩⟩)]
          · rw [if_neg (show ¬ s1.2.2.1 24 16 ≤ 52 by rw [hT.b (show 16 < n by omega)]; exact fun w => e4 ((byte_4 h16).mp w))]
    · obtain ⟨t1, t2⟩ := fl_tab kl k5 M
      rw [if_pos (show ¬ oI (some k) = 5 from fun w => k5 (nI_inj (by omega) (by omega) (show nI k = nI 5 from w))), t1]
      have ef : (15 : Int32) + nI (fLen k M) + 2 = nI (17 + fLen k M) := by
        rw [show (15 : Int32) = nI 15 from rfl, nI_add', show (2 : Int32) = nI 2 from rfl, nI_add']
        congr 1
        omega
      rw [ef]
      refine fin _ (fun c => ?_) (fun c => ?_)
      · rw [if_neg (fun w => w (by rw [← c.1]))]
        unfold dTail
        rw [ln1]
      · rw [if_pos (fun w => c ⟨nI_inj (by omega) (by omega) w, fun w5 => absurd w5 k5⟩)]
