def hoS : List Nat := [0, 96, 107, 132, 162, 183, 203, 208, 228, 229, 230]
theorem hoS_ok : ∀ i ∈ hoS, am_ok am_Pr i ∧ am_hok am_Pr i := by
  intro i hi
  simp only [hoS, List.mem_cons, List.not_mem_nil, or_false] at hi
  rcases hi with rfl | rfl | rfl | rfl | rfl | rfl | rfl | rfl | rfl | rfl | rfl
  · exact ⟨ok_Ho_init, hk_Ho_init⟩
  · exact ⟨ok_An_init, hk_An_init⟩
  · exact ⟨ok_Bo_init, hk_Bo_init⟩
  · exact ⟨ok_De_init, hk_De_init⟩
  · exact ⟨ok_Di_init, hk_Di_init⟩
  · exact ⟨ok_Me_init, hk_Me_init⟩
  · exact ⟨ok_Pa_init, hk_Pa_init⟩
  · exact ⟨ok_Qu_init, hk_Qu_init⟩
  · exact ⟨ok_AL_init, hk_AL_init⟩
  · exact ⟨ok_AbstractList_init, hk_AbstractList_init⟩
  · exact ⟨ok_AbstractCollection_init, hk_AbstractCollection_init⟩
def moS : List Nat := [13]
theorem moS_ok : ∀ i ∈ moS, am_ok am_Pr i ∧ am_hok am_Pr i := by
  intro i hi
  simp only [moS, List.mem_cons, List.not_mem_nil, or_false] at hi
  rcases hi with rfl
  · exact ⟨ok_Mo_code, hk_Mo_code⟩
def hoR : Option am_O := am_ev am_Pr none hoS 200 6 122 0 [.ref 0] [.inr (0, am_df 0)]
theorem hoR_some : hoR.isSome = true := by decide +kernel
def hoO : am_O := hoR.get hoR_some
def hoH : am_H := hoO.2.1
theorem ho_counts : hoO.1 = none ∧ hoO.2.2.1 = 21 ∧ hoO.2.2.2 = 7630 ∧ hoH.length = 22 := by decide +kernel
theorem ho_Me0 : am_Me am_Pr none 6 122 hoO.2.2.1 hoO.2.2.2 0 [.ref 0] [.inr (0, am_df 0)] (am_is hoO.1 hoH) := by
  unfold hoH hoO
  exact am_ev_Me (R := hoR) (d := hd_Ho_init) hoS_ok (by unfold hoR; exact Eq.refl _) hoR_some (by decide) rfl (Nat.le_of_ble_eq_true rfl)
theorem ho_Me : am_Me am_Pr none 6 122 21 7630 0 [.ref 0] [.inr (0, am_df 0)] (am_is none hoH) := am_Me_eq ho_counts.2.1 ho_counts.2.2.1 ho_counts.1 ho_Me0
