/-! The reference: when. -/
theorem d_phase {s : mS} {tick : Nat} (ht : tick < 1000) (h56 : s.1 56 = nI tick) : d_Mo_phase s = some (if tick < 100 then 0 else if tick < 700 then 1 else if tick < 800 then 2 else if tick < 900 then 3 else 4) := by
  have le : ∀ a, a < 1000 → (nI a ≤ nI tick ↔ a ≤ tick) := fun a ha => ⟨fun q => by
    by_cases c : a ≤ tick
    · exact c
    · exact absurd q (nI_ngt (by omega) (by omega) (by omega)), fun q => nI_le0 (by omega) (by omega) q⟩
  have e1 : (100 : Int32) ≤ nI tick ↔ 100 ≤ tick := le 100 (by omega)
  have e7 : (700 : Int32) ≤ nI tick ↔ 700 ≤ tick := le 700 (by omega)
  have e8 : (800 : Int32) ≤ nI tick ↔ 800 ≤ tick := le 800 (by omega)
  have e9 : (900 : Int32) ≤ nI tick ↔ 900 ≤ tick := le 900 (by omega)
  unfold d_Mo_phase
  rw [h56]
  by_cases c1 : tick < 100
  · rw [if_neg (fun q => by have := e1.mp q; omega), if_pos c1]
  · rw [if_pos (e1.mpr (by omega)), if_neg c1]
    by_cases c7 : tick < 700
    · rw [if_neg (fun q => by have := e7.mp q; omega), if_pos c7]
    · rw [if_pos (e7.mpr (by omega)), if_neg c7]
      by_cases c8 : tick < 800
      · rw [if_neg (fun q => by have := e8.mp q; omega), if_pos c8]
      · rw [if_pos (e8.mpr (by omega)), if_neg c8]
        by_cases c9 : tick < 900
        · rw [if_neg (fun q => by have := e9.mp q; omega), if_pos c9]
        · rw [if_pos (e9.mpr (by omega)), if_neg c9]
theorem d_time {s : mS} {k tick pr : Nat} {fo : Bool} (hk : k < 15) (h4 : s.1 4 = nI k) (ht : tick < 1000) (h56 : s.1 56 = nI tick) (hp : k = 5 → s.2.2.1 24 15 = nI (48 + pr) ∧ pr < 10) (hfo : k = 5 → l_Mo_isTime_149 100000 1 0 s = some (b2i fo)) : d_Mo_isTime s = some (b2i (inT k tick pr fo)) := by
  have hu : (if (nI k : Int32) = 5 then (some 1) else (if (nI k : Int32) = 6 then (some 1) else (if (nI k : Int32) = 3 then (some 1) else (if (nI k : Int32) = 4 then (some 1) else (if ¬ (nI k : Int32) = 13 then (some 0) else (some (1 : Int32))))))) = some (b2i (decide (k = 3 ∨ k = 4 ∨ k = 5 ∨ k = 6 ∨ k = 13))) := by
    rcases k15 hk with rfl | rfl | rfl | rfl | rfl | rfl | rfl | rfl | rfl | rfl | rfl | rfl | rfl | rfl | rfl <;> decide
  unfold d_Mo_isTime
  rw [d_phase ht h56, Option.bind_some, h4, hu, Option.bind_some, inT_eq]
  by_cases c1 : tick < 100
  · rw [if_pos c1, if_neg (by decide), decide_eq_true (show ¬ 100 ≤ tick by omega), decide_eq_false (show ¬ ¬ tick < 900 by omega)]
    generalize (if tick < 700 then true else if tick < 800 then decide (pr ≤ 4) else fo) = P
    rcases k15 hk with rfl | rfl | rfl | rfl | rfl | rfl | rfl | rfl | rfl | rfl | rfl | rfl | rfl | rfl | rfl <;> cases P <;> decide
  · rw [if_neg c1, decide_eq_false (show ¬ ¬ 100 ≤ tick by omega)]
    by_cases c7 : tick < 700
    · rw [if_pos c7, if_pos c7, if_pos (by decide), if_pos (by decide), if_pos (by decide), if_pos (by decide), Option.bind_some, if_pos (by decide), decide_eq_false (show ¬ ¬ tick < 900 by omega)]
      rcases k15 hk with rfl | rfl | rfl | rfl | rfl | rfl | rfl | rfl | rfl | rfl | rfl | rfl | rfl | rfl | rfl <;> decide
    · rw [if_neg c7, if_neg c7]
      by_cases c8 : tick < 800
      · rw [if_pos c8, if_pos c8, if_pos (by decide), if_pos (by decide), if_neg (by decide), decide_eq_false (show ¬ ¬ tick < 900 by omega)]
        by_cases h5 : k = 5
        · subst h5
          obtain ⟨p1, p2⟩ := hp rfl
          have e4 : ((52 : Int32) < nI (48 + pr)) ↔ 52 < 48 + pr := nI_lt' (a := 52) (by omega) (by omega)
          rw [if_neg (by decide), show am_ix 15 400 = some 15 from by decide, Option.bind_some, p1]
          by_cases c4 : pr ≤ 4
          · rw [if_neg (fun q => by have := e4.mp q; omega), decide_eq_true c4]; decide
          · rw [if_pos (e4.mpr (by omega)), decide_eq_false c4]; decide
        · generalize decide (pr ≤ 4) = P
          rw [if_pos (show ¬ nI k = (5 : Int32) from fun q => h5 (nI_inj (b := 5) (by omega) (by omega) q))]
          rcases k15 hk with rfl | rfl | rfl | rfl | rfl | rfl | rfl | rfl | rfl | rfl | rfl | rfl | rfl | rfl | rfl <;> first | exact absurd rfl h5 | (cases P <;> decide)
      · rw [if_neg c8, if_neg c8]
        by_cases c9 : tick < 900
        · rw [if_pos c9, if_pos (by decide), if_pos (by decide), if_pos (by decide), if_neg (by decide), decide_eq_false (show ¬ ¬ tick < 900 by omega)]
          by_cases h5 : k = 5
          · subst h5
            rw [if_neg (by decide), hfo rfl, Option.bind_some, Option.bind_some]
            cases fo <;> decide
          · rw [if_pos (show ¬ nI k = (5 : Int32) from fun q => h5 (nI_inj (b := 5) (by omega) (by omega) q)), Option.bind_some, if_pos (by decide)]
            rcases k15 hk with rfl | rfl | rfl | rfl | rfl | rfl | rfl | rfl | rfl | rfl | rfl | rfl | rfl | rfl | rfl <;> first | exact absurd rfl h5 | (cases fo <;> decide)
        · rw [if_neg c9, if_pos (by decide), if_neg (by decide), decide_eq_true c9]
          rcases k15 hk with rfl | rfl | rfl | rfl | rfl | rfl | rfl | rfl | rfl | rfl | rfl | rfl | rfl | rfl | rfl <;> cases fo <;> decide
