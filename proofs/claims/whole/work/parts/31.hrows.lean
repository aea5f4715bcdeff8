/-! Rows over the class's picture. -/
theorem hWT.up {S S' : hS} (h : hWT S) (h1 : S'.1 = S.1) (h4 : S'.2.2.2.1 = S.2.2.2.1) (h7 : S'.2.2.2.2.2.2 = S.2.2.2.2.2.2) : hWT S' := by
  unfold hWT at h ⊢
  rw [h1, h4, h7]; exact h
/-- the fields that never change -/
def hs_fin (key : Nat) : Bool := hs_fx.any fun p => p.1 == key
theorem hWT.ref {S : hS} (h : hWT S) {key ad : Nat} {o : Option Nat} (hf : hs_fin key = false) (ho : ∀ b, o = some b → hs_ok S.1 key b) : hWT (hpR S key ad o) := by
  refine ⟨fun key' a b hb => ?_, h.2.1, fun p hp => ?_, h.2.2.2⟩
  · by_cases hq : key' = key ∧ a = ad
    · obtain ⟨rfl, rfl⟩ := hq
      have e : (hpR S key' a o).2.2.2.1 key' a = o := up2_eq
      rw [e] at hb
      exact ho b hb
    · have e : (hpR S key ad o).2.2.2.1 key' a = S.2.2.2.1 key' a := up2_ne hq
      rw [e] at hb
      exact h.1 key' a b hb
  · have hne : ¬ (p.1 = key ∧ p.2.1 = ad) := by
      intro q
      have : hs_fin key = true := List.any_eq_true.mpr ⟨p, hp, by simpa using q.1⟩
      rw [hf] at this; cases this
    have e : (hpR S key ad o).2.2.2.1 p.1 p.2.1 = S.2.2.2.1 p.1 p.2.1 := up2_ne hne
    rw [e]
    exact h.2.2.1 p hp
theorem hs_ce_A {S : hS} {ad i a : Nat} {v : Int32} {p : Nat × Nat} (h : a ≠ ad) : hs_ce (hpA S ad i v) a p = hs_ce S a p := by
  have e : (hpA S ad i v).2.2.2.2.1 a = S.2.2.2.2.1 a := funext fun j => up2_ne (fun q => h q.1)
  unfold hs_ce
  rw [e]; rfl
theorem hs_ce_B {S : hS} {ad i a : Nat} {v : Int64} {p : Nat × Nat} (h : a ≠ ad) : hs_ce (hpB S ad i v) a p = hs_ce S a p := by
  have e : (hpB S ad i v).2.2.2.2.2.1 a = S.2.2.2.2.2.1 a := funext fun j => up2_ne (fun q => h q.1)
  unfold hs_ce
  rw [e]; rfl
theorem hs_ce_Q {S : hS} {ad i a : Nat} {v : Option Nat} {p : Nat × Nat} (h : a ≠ ad) : hs_ce (hpQ S ad i v) a p = hs_ce S a p := by
  have e : (hpQ S ad i v).2.2.2.2.2.2 a = S.2.2.2.2.2.2 a := funext fun j => up2_ne (fun q => h q.1)
  unfold hs_ce
  rw [e]; rfl
theorem up2_upd (f : Nat → Nat → Int32) (a i : Nat) (v : Int32) : up2 f a i v a = upd (f a) i v := by
  funext j; unfold up2 upd; rw [if_pos rfl]
theorem up2_updL (f : Nat → Nat → Int64) (a i : Nat) (v : Int64) : up2 f a i v a = vp_updL (f a) i v := by
  funext j; unfold up2 vp_updL; rw [if_pos rfl]
theorem up2_up {α : Type} (f : Nat → Nat → α) (a i : Nat) (v : α) : up2 f a i v a = va_up (f a) i v := by
  funext j; unfold up2 va_up; rw [if_pos rfl]
theorem RH_A {S : hS} {h h' : am_H} {ad kd i : Nat} {v : Int32} (hR : RH S h) (hk : hK S.1 ad kd) (h20 : kd = 20 ∨ kd = 22 ∨ kd = 23) (e1 : h'[ad]? = some (.inl (kd - 20, hln S.1 ad, .inl (upd (S.2.2.2.2.1 ad) i v)))) (e2 : ∀ q, q ≠ ad → h'[q]? = h[q]?) (e3 : h'.length = h.length) : RH (hpA S ad i v) h' := by
  refine ⟨e3.trans hR.1, fun a p hp h9 => ?_, hR.2.2⟩
  by_cases ha : a = ad
  · subst ha
    obtain ⟨m, n⟩ := p
    have hm := hk.un hp
    have hn : n = hln S.1 a := by
      have := hk.ln
      rw [show S.1[a]? = some (m, n) from hp] at this
      cases this; rfl
    subst hm; subst hn
    rw [e1, ← up2_upd]
    unfold hs_ce
    rw [if_neg (by dsimp only; omega), if_neg (by dsimp only; omega), if_pos (by dsimp only; omega)]
    rfl
  · rw [e2 a ha, hR.2.1 a p hp h9, hs_ce_A ha]
theorem RH_B {S : hS} {h h' : am_H} {ad i : Nat} {v : Int64} (hR : RH S h) (hk : hK S.1 ad 21) (e1 : h'[ad]? = some (.inl (1, hln S.1 ad, .inr (.inl (vp_updL (S.2.2.2.2.2.1 ad) i v))))) (e2 : ∀ q, q ≠ ad → h'[q]? = h[q]?) (e3 : h'.length = h.length) : RH (hpB S ad i v) h' := by
  refine ⟨e3.trans hR.1, fun a p hp h9 => ?_, hR.2.2⟩
  by_cases ha : a = ad
  · subst ha
    obtain ⟨m, n⟩ := p
    have hm := hk.un hp
    have hn : n = hln S.1 a := by
      have := hk.ln
      rw [show S.1[a]? = some (m, n) from hp] at this
      cases this; rfl
    subst hm; subst hn
    rw [e1, ← up2_updL]
    rfl
  · rw [e2 a ha, hR.2.1 a p hp h9, hs_ce_B ha]
theorem RH_Q {S : hS} {h h' : am_H} {ad kd i : Nat} {o : Option Nat} (hR : RH S h) (hk : hK S.1 ad kd) (h20 : 24 ≤ kd ∧ kd < 30) (ho : ∀ b, o = some b → hK S.1 b (hs_ek kd)) (e1 : h'[ad]? = some (.inl (hs_at kd, hln S.1 ad, .inr (.inr (.inr (.inr (va_up (S.2.2.2.2.2.2 ad) i o))))))) (e2 : ∀ q, q ≠ ad → h'[q]? = h[q]?) (e3 : h'.length = h.length) : RH (hpQ S ad i o) h' := by
  refine ⟨e3.trans hR.1, fun a p hp h9 => ?_, ⟨hR.2.2.1, fun a p hp i' b hb => ?_, hR.2.2.2.2.1, hR.2.2.2.2.2⟩⟩
  · by_cases ha : a = ad
    · subst ha
      obtain ⟨m, n⟩ := p
      have hm := hk.un hp
      have hn : n = hln S.1 a := by
        have := hk.ln
        rw [show S.1[a]? = some (m, n) from hp] at this
        cases this; rfl
      subst hm; subst hn
      rw [e1, ← up2_up]
      unfold hs_ce
      rw [if_neg (by dsimp only; omega), if_neg (by dsimp only; omega), if_neg (by dsimp only; omega)]
      rfl
    · rw [e2 a ha, hR.2.1 a p hp h9, hs_ce_Q ha]
  · by_cases hq : a = ad ∧ i' = i
    · obtain ⟨rfl, rfl⟩ := hq
      have e : (hpQ S a i' o).2.2.2.2.2.2 a i' = o := up2_eq
      rw [e] at hb
      rw [show p.1 = kd from hk.un (n := p.2) (m := p.1) hp]
      exact ho b hb
    · have e : (hpQ S ad i o).2.2.2.2.2.2 a i' = S.2.2.2.2.2.2 a i' := up2_ne hq
      rw [e] at hb
      exact hR.2.2.2.1 a p hp i' b hb
def hs_ty : FieldType → Bool
  | .int => true
  | .long => true
  | .boolean => true
  | .byte => true
  | .object _ => true
  | .array _ => true
  | _ => false
theorem hs_tys : ∀ ci, ci < 14 → ∀ k, k < am_cN ci → hs_ty (am_ft ci k) = true := by decide +kernel
theorem hs_new_v {S : hS} {kd n k : Nat} (ht : hs_ty (am_ft (hs_cl kd) k) = true) : hs_v (hNew S kd n) kd k S.1.length = defaultValue (am_ft (hs_cl kd) k) := by
  have hI : (hNew S kd n).2.1 (100 * kd + k) S.1.length = 0 := if_pos rfl
  have hL : (hNew S kd n).2.2.1 (100 * kd + k) S.1.length = 0 := if_pos rfl
  have hR : (hNew S kd n).2.2.2.1 (100 * kd + k) S.1.length = none := if_pos rfl
  unfold hs_v
  generalize am_ft (hs_cl kd) k = ty at ht
  rw [hI, hL, hR]
  cases ty <;> first | rfl | cases ht
theorem hs_fs_new {S : hS} {kd n kd' a : Nat} (h : a ≠ S.1.length) : hs_fs (hNew S kd n) kd' a = hs_fs S kd' a := by
  unfold hs_fs
  apply List.map_congr_left
  intro k _
  have hI : (hNew S kd n).2.1 (100 * kd' + k) a = S.2.1 (100 * kd' + k) a := if_neg h
  have hL : (hNew S kd n).2.2.1 (100 * kd' + k) a = S.2.2.1 (100 * kd' + k) a := if_neg h
  have hR : (hNew S kd n).2.2.2.1 (100 * kd' + k) a = S.2.2.2.1 (100 * kd' + k) a := if_neg h
  unfold hs_v
  rw [hI, hL, hR]
theorem hs_ce_new {S : hS} {kd n a : Nat} {p : Nat × Nat} (h : a ≠ S.1.length) : hs_ce (hNew S kd n) a p = hs_ce S a p := by
  have h5 : (hNew S kd n).2.2.2.2.1 a = S.2.2.2.2.1 a := funext fun i => if_neg h
  have h6 : (hNew S kd n).2.2.2.2.2.1 a = S.2.2.2.2.2.1 a := funext fun i => if_neg h
  have h7 : (hNew S kd n).2.2.2.2.2.2 a = S.2.2.2.2.2.2 a := funext fun i => if_neg h
  unfold hs_ce
  rw [hs_fs_new h, h5, h6, h7]
theorem hNew_E (S : hS) (kd n : Nat) : hE S.1 (hNew S kd n).1 := ⟨[(kd, n)], rfl⟩
theorem hNew_K (S : hS) (kd n : Nat) : hK (hNew S kd n).1 S.1.length kd := ⟨n, by show (S.1 ++ [(kd, n)])[S.1.length]? = _; rw [List.getElem?_append_right (Nat.le_refl _), Nat.sub_self]; rfl⟩
theorem hNew_ln (S : hS) (kd n : Nat) : hln (hNew S kd n).1 S.1.length = n := by
  unfold hln
  rw [show (hNew S kd n).1[S.1.length]? = some (kd, n) by show (S.1 ++ [(kd, n)])[S.1.length]? = _; rw [List.getElem?_append_right (Nat.le_refl _), Nat.sub_self]; rfl]
theorem hE.le {s t : List (Nat × Nat)} (h : hE s t) : s.length ≤ t.length := by
  obtain ⟨u, rfl⟩ := h
  rw [List.length_append]; exact Nat.le_add_right _ _
theorem hWT_new {S : hS} {kd n : Nat} (h : hWT S) : hWT (hNew S kd n) := by
  have he := hNew_E S kd n
  refine ⟨fun key a b hb => ?_, fun a p hp i b hb => ?_, fun p hp => ?_, h.2.2.2.tr he⟩
  · by_cases ha : a = S.1.length
    · have e : (hNew S kd n).2.2.2.1 key a = none := if_pos ha
      rw [e] at hb; cases hb
    · have e : (hNew S kd n).2.2.2.1 key a = S.2.2.2.1 key a := if_neg ha
      rw [e] at hb
      exact (h.1 key a b hb).up he
  · by_cases ha : a = S.1.length
    · have e : (hNew S kd n).2.2.2.2.2.2 a i = none := if_pos ha
      rw [e] at hb; cases hb
    · have e : (hNew S kd n).2.2.2.2.2.2 a i = S.2.2.2.2.2.2 a i := if_neg ha
      rw [e] at hb
      have hp2 : S.1[a]? = some p := by
        have hlt := (List.getElem?_eq_some_iff.mp hp).1
        have hl2 : (hNew S kd n).1.length = S.1.length + 1 := by show (S.1 ++ [(kd, n)]).length = _; rw [List.length_append]; rfl
        have hp3 : (S.1 ++ [(kd, n)])[a]? = some p := hp
        rw [List.getElem?_append_left (by omega)] at hp3
        exact hp3
      exact (h.2.1 a p hp2 i b hb).up he
  · have hne : ¬ p.2.1 = S.1.length := by
      have h1 := hs_fx_lt p hp
      have h2 := h.2.2.2.le
      have h3 : hs_fix.length = 60 := rfl
      omega
    have e : (hNew S kd n).2.2.2.1 p.1 p.2.1 = S.2.2.2.1 p.1 p.2.1 := if_neg hne
    rw [e]
    exact h.2.2.1 p hp
theorem RH_new {S : hS} {h : am_H} {kd n : Nat} (hR : RH S h) {e : am_Ce} (he : e = hs_ce (hNew S kd n) S.1.length (kd, n)) : RH (hNew S kd n) (h ++ [e]) := by
  refine ⟨?_, fun a p hp h9 => ?_, hWT_new hR.2.2⟩
  · show _ = (S.1 ++ [(kd, n)]).length
    rw [List.length_append, List.length_append, hR.1]; rfl
  · have hlt : a < S.1.length + 1 := by
      have := (List.getElem?_eq_some_iff.mp hp).1
      have h2 : (S.1 ++ [(kd, n)]).length = S.1.length + 1 := by rw [List.length_append]; rfl
      exact h2 ▸ this
    by_cases ha : a = S.1.length
    · subst ha
      have hp2 : (S.1 ++ [(kd, n)])[S.1.length]? = some p := hp
      rw [List.getElem?_append_right (Nat.le_refl _), Nat.sub_self] at hp2
      cases hp2
      rw [← hR.1, List.getElem?_append_right (Nat.le_refl _), Nat.sub_self, hR.1, he]
      rfl
    · have hp2 : (S.1 ++ [(kd, n)])[a]? = some p := hp
      rw [List.getElem?_append_left (by omega)] at hp2
      rw [List.getElem?_append_left (by rw [hR.1]; omega), hR.2.1 a p hp2 h9, hs_ce_new ha]
section HR
variable {P : am_P} {sc : am_Sc} {F L mc ms j : Nat} {Q : Option Value → am_H → Prop} {pc pc' : Nat} {lo : am_Lo} {st : List Value} {h : am_H} {k n k' n' : Nat} {S S' : hS}
theorem am_hlen (kk : h.length ≤ am_M → am_S P sc F L mc ms j (pc, lo, st, h, k, n) Q) : am_S P sc F L mc ms j (pc, lo, st, h, k, n) Q := by
  intro d hd p l e R s m args below meth c g Z hC hK h1 h2 h3 h4 hZ H locs ls hW hLo
  exact kk hW.1 d hd p l e R s m args below meth c g Z hC hK h1 h2 h3 h4 hZ H locs ls hW hLo
theorem hs_nM {ad kd : Nat} (hR : RH S h) (hk : hK S.1 ad kd) (hl : h.length ≤ am_M) : ad ≠ am_M := by
  obtain ⟨m, hm⟩ := hk
  have h1 := (List.getElem?_eq_some_iff.mp hm).1
  rw [hR.1] at hl
  omega
theorem hr_get (ok : am_ok P j) {x len a b c ad kd : Nat} {v : Value} (hi : P.1 j pc = some (.getfield x, len, a, b, c)) (hR : RH S h) (hk : hK S.1 ad kd) (hcl : hs_cl kd = b) (h20 : kd < 20) (hc : c < am_cN b) (hv : hs_v S kd c ad = v) (hp : pc + 3 = pc') (hk' : k ≤ mc) (hn : n ≤ ms) (kk : am_S P sc F L mc ms j (pc', lo, v :: st, h, k, n) Q) : am_S P sc F L mc ms j (pc, lo, .ref ad :: st, h, k, n) Q := by
  subst hcl; subst hv
  refine ar_get ok hi (hR.ob hk h20) ?_ hp hk' hn kk
  unfold hs_fs
  rw [List.getElem?_map, List.getElem?_range hc]; rfl
theorem hr_put (ok : am_ok P j) {x len a b c ad kd : Nat} {v : Value} (hi : P.1 j pc = some (.putfield x, len, a, b, c)) (hR : RH S h) (hk : hK S.1 ad kd) (hcl : hs_cl kd = b) (h20 : kd < 20) (hc : c < am_cN b) (hpk : am_pk (am_ft b c) v = true) (hS : hs_w S (100 * kd + c) ad v = S') (hw : hWT S') (hp : pc + 3 = pc') (hk' : k ≤ mc) (hn : n ≤ ms) (kk : ∀ h' : am_H, RH S' h' → hF h h' → am_S P sc F L mc ms j (pc', lo, st, h', k, n) Q) : am_S P sc F L mc ms j (pc, lo, v :: .ref ad :: st, h, k, n) Q := by
  subst hcl; subst hS
  have hne := hs_lt hk (by omega) hR.2.2.2.2.2
  refine ar_put ok hi (hR.ob hk h20) (by unfold hs_fs; simpa using hc) hpk rfl hp hk' hn (fun h' e1 e2 e3 => kk h' (RH_put hR hk h20 hc hw hpk e1 e2 e3) (fun q q1 q2 => e2 q (by omega)))
theorem hr_iald (ok : am_ok P j) {len a b c ad jx N : Nat} {i : Int32} (hi : P.1 j pc = some (.iaload, len, a, b, c)) (hR : RH S h) (hk : hK S.1 ad 20) (hN : hln S.1 ad = N) (hx : am_ix i N = some jx) (hp : pc + 1 = pc') (hk' : k ≤ mc) (hn : n ≤ ms) (kk : am_S P sc F L mc ms j (pc', lo, .int (S.2.2.2.2.1 ad jx) :: st, h, k, n) Q) : am_S P sc F L mc ms j (pc, lo, .int i :: .ref ad :: st, h, k, n) Q := by
  subst hN
  exact am_hlen (fun hl => ar_iald ok hi (hs_nM hR hk hl) (hR.ai hk (Or.inl rfl)) hx rfl hp hk' hn kk)
theorem hr_bald (ok : am_ok P j) {len a b c ad jx N kd : Nat} {i : Int32} (hi : P.1 j pc = some (.baload, len, a, b, c)) (hR : RH S h) (hk : hK S.1 ad kd) (hkd : kd = 22 ∨ kd = 23) (hN : hln S.1 ad = N) (hx : am_ix i N = some jx) (hp : pc + 1 = pc') (hk' : k ≤ mc) (hn : n ≤ ms) (kk : am_S P sc F L mc ms j (pc', lo, .int (S.2.2.2.2.1 ad jx) :: st, h, k, n) Q) : am_S P sc F L mc ms j (pc, lo, .int i :: .ref ad :: st, h, k, n) Q := by
  subst hN
  exact ar_bald ok hi (hR.ai hk (Or.inr hkd)) (by omega) hx rfl hp hk' hn kk
theorem hr_lald (ok : am_ok P j) {len a b c ad jx N : Nat} {i : Int32} (hi : P.1 j pc = some (.laload, len, a, b, c)) (hR : RH S h) (hk : hK S.1 ad 21) (hN : hln S.1 ad = N) (hx : am_ix i N = some jx) (hp : pc + 1 = pc') (hk' : k ≤ mc) (hn : n ≤ ms) (kk : am_S P sc F L mc ms j (pc', lo, .long (S.2.2.2.2.2.1 ad jx) :: st, h, k, n) Q) : am_S P sc F L mc ms j (pc, lo, .int i :: .ref ad :: st, h, k, n) Q := by
  subst hN
  exact ar_lald ok hi (hR.al hk) hx rfl hp hk' hn kk
theorem hr_aald (ok : am_ok P j) {len a b c ad jx N kd : Nat} {i : Int32} (hi : P.1 j pc = some (.aaload, len, a, b, c)) (hR : RH S h) (hk : hK S.1 ad kd) (hkd : 24 ≤ kd ∧ kd < 28) (hN : hln S.1 ad = N) (hx : am_ix i N = some jx) (hp : pc + 1 = pc') (hk' : k ≤ mc) (hn : n ≤ ms) (kk : am_S P sc F L mc ms j (pc', lo, va_rf (S.2.2.2.2.2.2 ad jx) :: st, h, k, n) Q) : am_S P sc F L mc ms j (pc, lo, .int i :: .ref ad :: st, h, k, n) Q := by
  subst hN
  have h1 := hR.aq hk (by omega)
  have h2 : hs_at kd = kd - 20 := if_neg (by omega)
  rw [h2] at h1
  exact ar_aald ok hi h1 (by omega) hx rfl hp hk' hn kk
theorem hr_iast (ok : am_ok P j) {len a b c ad jx N : Nat} {i v : Int32} (hi : P.1 j pc = some (.iastore, len, a, b, c)) (hR : RH S h) (hk : hK S.1 ad 20) (hN : hln S.1 ad = N) (hx : am_ix i N = some jx) (hp : pc + 1 = pc') (hk' : k ≤ mc) (hn : n ≤ ms) (kk : ∀ h' : am_H, RH (hpA S ad jx v) h' → hF h h' → am_S P sc F L mc ms j (pc', lo, st, h', k, n) Q) : am_S P sc F L mc ms j (pc, lo, .int v :: .int i :: .ref ad :: st, h, k, n) Q := by
  subst hN
  have hne := hs_lt hk (by omega) hR.2.2.2.2.2
  exact ar_iast ok hi (hR.ai hk (Or.inl rfl)) hx hp hk' hn (fun h' e1 e2 e3 => kk h' (RH_A hR hk (Or.inl rfl) e1 e2 e3) (fun q q1 q2 => e2 q (by omega)))
theorem hr_bast (ok : am_ok P j) {len a b c ad jx N kd : Nat} {i v : Int32} (hi : P.1 j pc = some (.bastore, len, a, b, c)) (hR : RH S h) (hk : hK S.1 ad kd) (hkd : kd = 22 ∨ kd = 23) (hN : hln S.1 ad = N) (hx : am_ix i N = some jx) (hp : pc + 1 = pc') (hk' : k ≤ mc) (hn : n ≤ ms) (kk : ∀ h' : am_H, RH (hpA S ad jx (am_bn (kd - 20) v)) h' → hF h h' → am_S P sc F L mc ms j (pc', lo, st, h', k, n) Q) : am_S P sc F L mc ms j (pc, lo, .int v :: .int i :: .ref ad :: st, h, k, n) Q := by
  subst hN
  have hne := hs_lt hk (by omega) hR.2.2.2.2.2
  exact ar_bast ok hi (hR.ai hk (Or.inr hkd)) (by omega) hx hp hk' hn (fun h' e1 e2 e3 => kk h' (RH_A hR hk (Or.inr hkd) e1 e2 e3) (fun q q1 q2 => e2 q (by omega)))
theorem hr_last (ok : am_ok P j) {len a b c ad jx N : Nat} {i : Int32} {v : Int64} (hi : P.1 j pc = some (.lastore, len, a, b, c)) (hR : RH S h) (hk : hK S.1 ad 21) (hN : hln S.1 ad = N) (hx : am_ix i N = some jx) (hp : pc + 1 = pc') (hk' : k ≤ mc) (hn : n ≤ ms) (kk : ∀ h' : am_H, RH (hpB S ad jx v) h' → hF h h' → am_S P sc F L mc ms j (pc', lo, st, h', k, n) Q) : am_S P sc F L mc ms j (pc, lo, .long v :: .int i :: .ref ad :: st, h, k, n) Q := by
  subst hN
  have hne := hs_lt hk (by omega) hR.2.2.2.2.2
  exact ar_last ok hi (hR.al hk) hx hp hk' hn (fun h' e1 e2 e3 => kk h' (RH_B hR hk e1 e2 e3) (fun q q1 q2 => e2 q (by omega)))
theorem hr_aast (ok : am_ok P j) {len a b c ad jx N kd : Nat} {i : Int32} {o : Option Nat} (hi : P.1 j pc = some (.aastore, len, a, b, c)) (hR : RH S h) (hk : hK S.1 ad kd) (hkd : 24 ≤ kd ∧ kd < 28) (hN : hln S.1 ad = N) (hx : am_ix i N = some jx) (ho : ∀ z, o = some z → hK S.1 z (hs_ek kd)) (hp : pc + 1 = pc') (hk' : k ≤ mc) (hn : n ≤ ms) (kk : ∀ h' : am_H, RH (hpQ S ad jx o) h' → hF h h' → am_S P sc F L mc ms j (pc', lo, st, h', k, n) Q) : am_S P sc F L mc ms j (pc, lo, va_rf o :: .int i :: .ref ad :: st, h, k, n) Q := by
  subst hN
  have hne := hs_lt hk (by omega) hR.2.2.2.2.2
  have h1 := hR.aq hk (by omega)
  have h2 : hs_at kd = kd - 20 := if_neg (by omega)
  have fin : ∀ h' : am_H, h'[ad]? = some (.inl (kd - 20, hln S.1 ad, .inr (.inr (.inr (.inr (va_up (S.2.2.2.2.2.2 ad) jx o)))))) → (∀ q, q ≠ ad → h'[q]? = h[q]?) → h'.length = h.length → am_S P sc F L mc ms j (pc', lo, st, h', k, n) Q := fun h' e1 e2 e3 => kk h' (RH_Q hR hk (by omega) ho (by rw [h2]; exact e1) e2 e3) (fun q q1 q2 => e2 q (by omega))
  rw [h2] at h1
  cases o with
  | none => exact ar_aastN ok hi h1 (by omega) hx hp hk' hn fin
  | some z =>
    have hz := hR.ob (ho z rfl) (by unfold hs_ek; split <;> omega)
    have he : hs_cl (hs_ek kd) = am_ec (kd - 20) := by
      have : kd = 24 ∨ kd = 25 ∨ kd = 26 ∨ kd = 27 := by omega
      rcases this with rfl | rfl | rfl | rfl <;> rfl
    rw [he] at hz
    exact ar_aast ok hi h1 (by omega) hx hz hp hk' hn fin
theorem hr_alen (ok : am_ok P j) {len a b c ad kd : Nat} (hi : P.1 j pc = some (.arraylength, len, a, b, c)) (hR : RH S h) (hk : hK S.1 ad kd) (hkd : 20 ≤ kd ∧ kd < 28) {w : Int32} (hN : Int32.ofNat (hln S.1 ad) = w) (hp : pc + 1 = pc') (hk' : k ≤ mc) (hn : n ≤ ms) (kk : am_S P sc F L mc ms j (pc', lo, .int w :: st, h, k, n) Q) : am_S P sc F L mc ms j (pc, lo, .ref ad :: st, h, k, n) Q := by
  refine am_hlen (fun hl => ?_)
  have hM := hs_nM hR hk hl
  by_cases h1 : kd = 21
  · subst h1
    exact ar_alen ok hi hM (hR.al hk) (by omega) hN hp hk' hn kk
  · by_cases h2 : kd < 24
    · exact ar_alen ok hi hM (hR.ai hk (by omega)) (by omega) hN hp hk' hn kk
    · have h3 := hR.aq hk (by omega)
      have h4 : hs_at kd = kd - 20 := if_neg (by omega)
      rw [h4] at h3
      exact ar_alen ok hi hM h3 (by omega) hN hp hk' hn kk
theorem hr_new (ok : am_ok P j) {x len a b c ad kd : Nat} (hi : P.1 j pc = some (.new x, len, a, b, c)) (hR : RH S h) (hcl : hs_cl kd = b) (h20 : b < 14) (hkd : kd < 20) (hl : S.1.length < am_M) (had : S.1.length = ad) (hp : pc + 3 = pc') (hk1 : k + 1 = k') (hn1 : n + am_cN b = n') (hk' : k' ≤ mc) (hn : n' ≤ ms) (kk : ∀ h' : am_H, RH (hNew S kd 0) h' → hF h h' → am_S P sc F L mc ms j (pc', lo, .ref ad :: st, h', k', n') Q) : am_S P sc F L mc ms j (pc, lo, st, h, k, n) Q := by
  subst hp; subst hk1; subst hn1; subst had
  have hlt : h.length < am_M := by rw [hR.1]; exact hl
  refine am_step ok (am_f_hp hi rfl rfl rfl (y := (pc + 3, .ref h.length :: st, h ++ [.inr (b, am_df b)], k + 1, n + am_cN b)) ?_) hk' hn ?_
  · show (if h.length < am_M then _ else _) = _
    exact if_pos hlt
  rw [hR.1]
  refine kk _ (RH_new hR ?_) (fun q q1 q2 => List.getElem?_append_left (by have h1 := hR.2.2.2.2.2.le; have h3 : hs_fix.length = 60 := rfl; rw [hR.1]; omega))
  unfold hs_ce
  rw [if_pos hkd]
  subst hcl
  unfold am_df hs_fs
  refine congrArg (fun z => Sum.inr (hs_cl kd, z)) (List.map_congr_left fun z hz => ?_)
  exact (hs_new_v (hs_tys _ h20 z (List.mem_range.mp hz))).symm
theorem hr_newa (ok : am_ok P j) {len a b c N ad kd : Nat} {at0 : ArrayType} {d : Nat × Nat × am_X} {i : Int32} (hi : P.1 j pc = some (.newarray at0, len, a, b, c)) (hR : RH S h) (hd : am_nt at0 = some d) (hneg : ¬ i < 0) (hN : i.toNatClampNeg = N) (hb : N * d.2.1 ≤ 536870912) (hl : S.1.length < am_M) (had : S.1.length = ad) (hce : (.inl (d.1, N, d.2.2) : am_Ce) = hs_ce (hNew S kd N) S.1.length (kd, N)) (hp : pc + 2 = pc') (hk1 : k + 1 = k') (hn1 : n + N = n') (hk' : k' ≤ mc) (hn : n' ≤ ms) (kk : ∀ h' : am_H, RH (hNew S kd N) h' → hF h h' → am_S P sc F L mc ms j (pc', lo, .ref ad :: st, h', k', n') Q) : am_S P sc F L mc ms j (pc, lo, .int i :: st, h, k, n) Q := by
  subst hp; subst hk1; subst hn1; subst had; subst hN
  have hlt : h.length < am_M := by rw [hR.1]; exact hl
  refine am_step ok (am_f_hp hi rfl rfl rfl (y := (pc + 2, .ref h.length :: st, h ++ [.inl (d.1, i.toNatClampNeg, d.2.2)], k + 1, n + i.toNatClampNeg)) ?_) hk' hn ?_
  · show (am_nt at0).bind _ = _
    rw [hd]
    show (if i < 0 then _ else _) = _
    rw [if_neg hneg]
    exact if_pos ⟨hb, hlt⟩
  · rw [hR.1]
    exact kk _ (RH_new hR hce) (fun q q1 q2 => List.getElem?_append_left (by have h1 := hR.2.2.2.2.2.le; have h3 : hs_fix.length = 60 := rfl; rw [hR.1]; omega))
theorem hs_nw_i (S : hS) (kd N : Nat) (h : kd = 20 ∨ kd = 22 ∨ kd = 23) : (.inl (kd - 20, N, .inl fun _ => 0) : am_Ce) = hs_ce (hNew S kd N) S.1.length (kd, N) := by
  have e : (hNew S kd N).2.2.2.2.1 S.1.length = fun _ => 0 := funext fun i => if_pos rfl
  unfold hs_ce
  rw [if_neg (by dsimp only; omega), if_neg (by dsimp only; omega), if_pos (by dsimp only; omega), e]
theorem hs_nw_l (S : hS) (N : Nat) : (.inl (1, N, .inr (.inl fun _ => 0)) : am_Ce) = hs_ce (hNew S 21 N) S.1.length (21, N) := by
  have e : (hNew S 21 N).2.2.2.2.2.1 S.1.length = fun _ => 0 := funext fun i => if_pos rfl
  unfold hs_ce
  rw [if_neg (by dsimp only; omega), if_pos rfl, e]
theorem hs_nw_q (S : hS) (kd N : Nat) (h : 24 ≤ kd ∧ kd < 30) : (.inl (hs_at kd, N, .inr (.inr (.inr (.inr fun _ => none)))) : am_Ce) = hs_ce (hNew S kd N) S.1.length (kd, N) := by
  have e : (hNew S kd N).2.2.2.2.2.2 S.1.length = fun _ => none := funext fun i => if_pos rfl
  unfold hs_ce
  rw [if_neg (by dsimp only; omega), if_neg (by dsimp only; omega), if_neg (by dsimp only; omega), e]
theorem hr_anew (ok : am_ok P j) {x len a c N ad kd b : Nat} {i : Int32} (hi : P.1 j pc = some (.anewarray x, len, a, b, c)) (hR : RH S h) (hkd : 24 ≤ kd ∧ kd < 28) (hbk : kd - 20 = b) (hneg : ¬ i < 0) (hN : i.toNatClampNeg = N) (hb : N * 4 ≤ 536870912) (hl : S.1.length < am_M) (had : S.1.length = ad) (hp : pc + 3 = pc') (hk1 : k + 1 = k') (hn1 : n + N = n') (hk' : k' ≤ mc) (hn : n' ≤ ms) (kk : ∀ h' : am_H, RH (hNew S kd N) h' → hF h h' → am_S P sc F L mc ms j (pc', lo, .ref ad :: st, h', k', n') Q) : am_S P sc F L mc ms j (pc, lo, .int i :: st, h, k, n) Q := by
  subst hp; subst hk1; subst hn1; subst had; subst hN; subst hbk
  have hlt : h.length < am_M := by rw [hR.1]; exact hl
  refine am_step ok (am_f_hp hi rfl rfl rfl (y := (pc + 3, .ref h.length :: st, h ++ [.inl (kd - 20, i.toNatClampNeg, .inr (.inr (.inr (.inr fun _ => none))))], k + 1, n + i.toNatClampNeg)) ?_) hk' hn ?_
  · show (if i < 0 then _ else _) = _
    rw [if_neg hneg]
    exact if_pos ⟨hb, hlt⟩
  · rw [hR.1]
    refine kk _ (RH_new hR ?_) (fun q q1 q2 => List.getElem?_append_left (by have h1 := hR.2.2.2.2.2.le; have h3 : hs_fix.length = 60 := rfl; rw [hR.1]; omega))
    rw [← hs_nw_q S kd _ (by omega), show hs_at kd = kd - 20 from if_neg (by omega)]
/-- cells and slots may be counted higher -/
theorem am_wide {P : am_P} {sc : am_Sc} {F L mc ms j : Nat} {Q : Option Value → am_H → Prop} {pc : Nat} {lo : am_Lo} {st : List Value} {h : am_H} {k n k' n' : Nat} (h1 : k ≤ k') (h2 : n ≤ n') (kk : am_S P sc F L mc ms j (pc, lo, st, h, k', n') Q) : am_S P sc F L mc ms j (pc, lo, st, h, k, n) Q := by
  intro d hd p l e R s m args below meth c g Z hC hK h3 h4 h5 h6 hZ H locs ls hW hL
  exact W.widen h1 h2 (kk d hd p l e R s m args below meth c g Z hC hK h3 h4 h5 h6 hZ H locs ls hW hL)
end HR
