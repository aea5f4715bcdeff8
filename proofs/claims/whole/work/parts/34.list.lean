/-! Lists: rows over arrays of Object (kinds 28, 29), and the JDK's copyOf. -/
/-- a list's row: the empty one that all share, or an array of its own -/
def hel (sh : List (Nat × Nat)) (b kd : Nat) : Prop := b = am_M + 1 ∨ hK sh b kd
theorem hel.up {s t : List (Nat × Nat)} {b kd : Nat} (h : hel s b kd) (he : hE s t) : hel t b kd := h.imp id (fun q => q.up he)
def hlq (sh : List (Nat × Nat)) (b : Nat) : Nat := if b = am_M + 1 then 0 else hln sh b
theorem hlq_ix {sh : List (Nat × Nat)} {b kd jx : Nat} {i : Int32} (ho : hel sh b kd) (hx : am_ix i (hlq sh b) = some jx) : hK sh b kd ∧ hlq sh b = hln sh b := by
  rcases ho with ho | ho
  · exfalso
    unfold hlq at hx
    rw [if_pos ho] at hx
    unfold am_ix at hx
    rw [if_pos (Or.inr (Nat.zero_le _))] at hx
    cases hx
  · by_cases hb : b = am_M + 1
    · exfalso
      unfold hlq at hx
      rw [if_pos hb] at hx
      unfold am_ix at hx
      rw [if_pos (Or.inr (Nat.zero_le _))] at hx
      cases hx
    · exact ⟨ho, if_neg hb⟩
section HL
variable {P : am_P} {sc : am_Sc} {F L mc ms j : Nat} {Q : Option Value → am_H → Prop} {pc pc' : Nat} {lo : am_Lo} {st : List Value} {h : am_H} {k n k' n' : Nat} {S S' : hS} {d0 : am_Hd}
theorem hs_at8 {kd : Nat} (h : kd = 28 ∨ kd = 29) : hs_at kd = 8 := by
  rcases h with h | h <;> (subst h; rfl)
theorem hr8_alen (hd0 : P.2 j = some d0) (hdg : decode d0.2.1 pc = .ok (.arraylength, 1)) {ad kd : Nat} {w : Int32} (hR : RH S h) (hk : hel S.1 ad kd) (hkd : kd = 28 ∨ kd = 29) (hw : Int32.ofNat (hlq S.1 ad) = w) (hp : pc + 1 = pc') (kk : am_S P sc F L mc ms j (pc', lo, .int w :: st, h, k, n) Q) : am_S P sc F L mc ms j (pc, lo, .ref ad :: st, h, k, n) Q := by
  refine am_hlen (fun hl => ?_)
  rcases hk with hk | hk
  · subst hk
    have e : hlq S.1 (am_M + 1) = 0 := if_pos rfl
    rw [e] at hw
    exact ao_alen hd0 hdg (t := 0) (o := 1) (N := 0) rfl hw hp kk
  · have hne : ¬ ad = am_M + 1 := by
      have h1 := hk.lt
      rw [hR.1] at hl
      omega
    have e : hlq S.1 ad = hln S.1 ad := if_neg hne
    rw [e] at hw
    have hc := hR.aq hk (by omega)
    rw [hs_at8 hkd] at hc
    exact ao_alenQ hd0 hdg hc hw hp kk
theorem hr8_aald (hd0 : P.2 j = some d0) (hdg : decode d0.2.1 pc = .ok (.aaload, 1)) {ad kd jx : Nat} {i : Int32} (hR : RH S h) (hk : hel S.1 ad kd) (hkd : kd = 28 ∨ kd = 29) (hx : am_ix i (hlq S.1 ad) = some jx) (hp : pc + 1 = pc') (kk : am_S P sc F L mc ms j (pc', lo, va_rf (S.2.2.2.2.2.2 ad jx) :: st, h, k, n) Q) : am_S P sc F L mc ms j (pc, lo, .int i :: .ref ad :: st, h, k, n) Q := by
  obtain ⟨h1, h2⟩ := hlq_ix hk hx
  rw [h2] at hx
  have hc := hR.aq h1 (by omega)
  rw [hs_at8 hkd] at hc
  exact ao_aald hd0 hdg hc hx rfl hp kk
theorem hr8_aast (hd0 : P.2 j = some d0) (hdg : decode d0.2.1 pc = .ok (.aastore, 1)) {ad kd jx v b : Nat} {i : Int32} {q : vw_C} (hR : RH S h) (hk : hel S.1 ad kd) (hkd : kd = 28 ∨ kd = 29) (hx : am_ix i (hlq S.1 ad) = some jx) (hv : hK S.1 v (hs_ek kd)) (hb : hs_ek kd = b) (hq : am_cls[b]? = some q) (hw : q.1 ∈ am_obs) (hp : pc + 1 = pc') (kk : ∀ h' : am_H, RH (hpQ S ad jx (some v)) h' → hF h h' → am_S P sc F L mc ms j (pc', lo, st, h', k, n) Q) : am_S P sc F L mc ms j (pc, lo, .ref v :: .int i :: .ref ad :: st, h, k, n) Q := by
  obtain ⟨h1, h2⟩ := hlq_ix hk hx
  rw [h2] at hx
  have hc := hR.aq h1 (by omega)
  rw [hs_at8 hkd] at hc
  have hvo := hR.ob hv (by rcases hkd with z | z <;> (subst z; decide))
  have hcl : hs_cl (hs_ek kd) = b := by rcases hkd with z | z <;> (subst z; exact hb)
  rw [hcl] at hvo
  have hne := hs_lt h1 (by omega) hR.2.2.2.2.2
  have hlt : ad < h.length := (List.getElem?_eq_some_iff.mp hc).1
  refine ao_aastO hd0 hdg hc hx hq hw hvo hp (kk _ (RH_Q hR h1 (by omega) (fun z hz => by cases hz; exact hv) (by rw [hs_at8 hkd]; exact List.getElem?_set_self hlt) (fun z hz => List.getElem?_set_ne (fun y => hz y.symm)) List.length_set) (fun z z1 z2 => List.getElem?_set_ne (by omega)))
/-- null into an array of Object -/
theorem ao_aastN (hd0 : P.2 j = some d0) (hdg : decode d0.2.1 pc = .ok (.aastore, 1)) {ad N jx : Nat} {f : Nat → Option Nat} {i : Int32} (hc : h[ad]? = some (.inl (8, N, .inr (.inr (.inr (.inr f)))))) (hx : am_ix i N = some jx) (hp : pc + 1 = pc') (kk : am_S P sc F L mc ms j (pc', lo, st, h.set ad (.inl (8, N, .inr (.inr (.inr (.inr (va_up f jx none)))))), k, n) Q) : am_S P sc F L mc ms j (pc, lo, .null :: .int i :: .ref ad :: st, h, k, n) Q := by
  subst hp
  intro d hd p l e R s m args below meth c g Z hC hK h1 h2 h3 h4 hZ H locs ls hW hLo
  obtain rfl : d0 = d := Option.some.inj (hd0.symm.trans hd)
  have kk := fun H1 locs1 hW1 => kk d0 hd p l e R s m args below meth c g Z hC hK h1 h2 h3 h4 hZ H1 locs1 ls hW1 hLo
  obtain ⟨hxe, hb, -⟩ := hC
  obtain ⟨hin, rfl⟩ := am_ix_eq hx
  refine va_WaastN (C := "java/lang/Object") hxe hb (am_at hW hc) (am_arrOf hK am_el8 N (fun j => va_rf ((f j).map (am_r g)))) (fun z => by cases z) (by show ¬ (i < 0 ∨ (arrV _ _ _).slots.size ≤ _); rw [arrV_size]; exact hin) rfl rfl hdg fun H1 e1 e2 e3 => ?_
  refine kk H1 _ (am_Wd_set hW hc e2 e3 ?_)
  show H1[am_r g ad]? = some (vp_cell _ (N, .inr (.inr (.inr (.inr (fun j => (va_up f i.toNatClampNeg none j).map (am_r g)))))))
  rw [e1, am_up_map]
  show some ((arrV _ N (fun j => va_rf ((f j).map (am_r g)))).setSlot _ (va_rf none)) = _
  rw [arrV_store, am_updV_q]; rfl
theorem hr8_aastN (hd0 : P.2 j = some d0) (hdg : decode d0.2.1 pc = .ok (.aastore, 1)) {ad kd jx : Nat} {i : Int32} (hR : RH S h) (hk : hel S.1 ad kd) (hkd : kd = 28 ∨ kd = 29) (hx : am_ix i (hlq S.1 ad) = some jx) (hp : pc + 1 = pc') (kk : ∀ h' : am_H, RH (hpQ S ad jx none) h' → hF h h' → am_S P sc F L mc ms j (pc', lo, st, h', k, n) Q) : am_S P sc F L mc ms j (pc, lo, .null :: .int i :: .ref ad :: st, h, k, n) Q := by
  obtain ⟨h1, h2⟩ := hlq_ix hk hx
  rw [h2] at hx
  have hc := hR.aq h1 (by omega)
  rw [hs_at8 hkd] at hc
  have hne := hs_lt h1 (by omega) hR.2.2.2.2.2
  have hlt : ad < h.length := (List.getElem?_eq_some_iff.mp hc).1
  refine ao_aastN hd0 hdg hc hx hp (kk _ (RH_Q hR h1 (by omega) (fun z hz => by cases hz) (by rw [hs_at8 hkd]; exact List.getElem?_set_self hlt) (fun z hz => List.getElem?_set_ne (fun y => hz y.symm)) List.length_set) (fun z z1 z2 => List.getElem?_set_ne (by omega)))
theorem hr8_anew (hd0 : P.2 j = some d0) {x a N ad kd : Nat} {i : Int32} (hdg : decode d0.2.1 pc = .ok (.anewarray x, 3)) (hl : am_wd a (.classLink d0.1.cls x "java/lang/Object") = true) (hR : RH S h) (hkd : kd = 28 ∨ kd = 29) (hneg : ¬ i < 0) (hN : i.toNatClampNeg = N) (hb4 : N * 4 ≤ 536870912) (hM : S.1.length < am_M) (had : S.1.length = ad) (hp : pc + 3 = pc') (hk1 : k + 1 = k') (hn1 : n + N = n') (hk' : k' ≤ mc) (hn' : n' ≤ ms) (kk : ∀ h' : am_H, RH (hNew S kd N) h' → hF h h' → am_S P sc F L mc ms j (pc', lo, .ref ad :: st, h', k', n') Q) : am_S P sc F L mc ms j (pc, lo, .int i :: st, h, k, n) Q := by
  refine ao_anew hd0 hdg hl hneg hN hb4 (hR.1.trans had) (by omega) hp hk1 hn1 hk' hn' (kk _ (RH_new hR ?_) (fun q q1 q2 => List.getElem?_append_left (by have h1 := hR.2.2.2.2.2.le; have h3 : hs_fix.length = 60 := rfl; rw [hR.1]; omega)))
  rw [← hs_nw_q S kd N (by omega), hs_at8 hkd]
end HL
