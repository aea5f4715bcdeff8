/-! A run: steps, calls and answers until the method ends; what a run gives is a contract. -/
abbrev am_O : Type := Option Value × am_H × Nat × Nat
def am_go (P : am_P) (sc : am_Sc) (S : List Nat) (F L j : Nat) (cal : Nat → Nat → List Value → am_H → Option am_O) : Nat → am_St → Option am_O
  | 0, _ => none
  | f + 1, x => match am_rf P j x.1 x.2.2.1 with
    | some r => some (r, x.2.2.2)
    | none => match am_f P sc F L j x with
      | some y => am_go P sc S F L j cal f y
      | none => match am_cf P j x with
        | some q => match P.2 q.1 with
          | some d => if 8 + (d.2.2.1 + 11) ≤ L ∧ (am_fl q.2.1).length ≤ d.2.2.1 ∧ S.elem q.1 = true then
              match cal (L - (8 + (d.2.2.1 + 11))) q.1 q.2.1 x.2.2.2.1 with
              | some w => am_go P sc S F L j cal f (x.1 + 3, x.2.1, w.1.toList ++ q.2.2, w.2.1, x.2.2.2.2.1 + w.2.2.1, x.2.2.2.2.2 + w.2.2.2)
              | none => none
            else none
          | none => none
        | none => none
def am_ev (P : am_P) (sc : am_Sc) (S : List Nat) (fuel : Nat) : Nat → Nat → Nat → List Value → am_H → Option am_O
  | 0 => fun L j args h => match P.2 j with
    | some d => am_go P sc S 0 L j (fun _ _ _ _ => none) fuel (0, am_en d.2.2.1 args, [], h, 0, 0)
    | none => none
  | F + 1 => fun L j args h => match P.2 j with
    | some d => am_go P sc S (F + 1) L j (am_ev P sc S fuel F) fuel (0, am_en d.2.2.1 args, [], h, 0, 0)
    | none => none
section AM6
variable {P : am_P} {sc : am_Sc} {S : List Nat} {F F' L j : Nat} {cal : Nat → Nat → List Value → am_H → Option am_O}
/-- just this answer and these cells -/
def am_is (r : Option Value) (h : am_H) : Option Value → am_H → Prop := fun r1 h1 => r1 = r ∧ h1 = h
theorem am_go_sound (okS : ∀ i ∈ S, am_ok P i ∧ am_hok P i) (ok : am_ok P j) (hF : F' + 1 ≤ F ∨ ∀ a b c d, cal a b c d = none) (hcal : ∀ (L' j' : Nat) (args : List Value) (h h' : am_H) (r : Option Value) (k n : Nat) (d : am_Hd), j' ∈ S → P.2 j' = some d → (am_fl args).length ≤ d.2.2.1 → cal L' j' args h = some (r, h', k, n) → am_Me P sc F' L' k n j' args h (am_is r h')) :
    ∀ (f : Nat) (x : am_St) (r : Option Value) (h' : am_H) (k' n' : Nat), am_go P sc S F L j cal f x = some (r, h', k', n') → x.2.2.2.2.1 ≤ k' ∧ x.2.2.2.2.2 ≤ n' ∧ ∀ mc ms, k' ≤ mc → n' ≤ ms → am_S P sc F L mc ms j x (am_is r h') := by
  intro f
  induction f with
  | zero => intro x r h' k' n' h; cases h
  | succ f ih =>
    intro x r h' k' n' h
    unfold am_go at h
    split at h
    · rename_i r1 hr
      obtain ⟨e1, e2⟩ := Prod.mk.inj (Option.some.inj h)
      have e3 : x.2.2.2.1 = h' := congrArg (fun q : am_H × Nat × Nat => q.1) e2
      have e4 : x.2.2.2.2.1 = k' := congrArg (fun q : am_H × Nat × Nat => q.2.1) e2
      have e5 : x.2.2.2.2.2 = n' := congrArg (fun q : am_H × Nat × Nat => q.2.2) e2
      refine ⟨Nat.le_of_eq e4, Nat.le_of_eq e5, fun mc ms h1 h2 => ?_⟩
      exact am_ret ok hr (by rw [e4]; exact h1) (by rw [e5]; exact h2) ⟨e1, e3⟩
    · split at h
      · rename_i y hy
        obtain ⟨a1, a2, a3⟩ := ih y r h' k' n' h
        have hm := am_mono hy
        exact ⟨Nat.le_trans hm.1 a1, Nat.le_trans hm.2 a2, fun mc ms h1 h2 => am_step ok hy (Nat.le_trans a1 h1) (Nat.le_trans a2 h2) (a3 mc ms h1 h2)⟩
      · split at h
        · rename_i q hq
          split at h
          · rename_i d hd
            split at h
            · rename_i hcond
              split at h
              · rename_i w hw
                obtain ⟨w1, w2, w3, w4⟩ := w
                obtain ⟨a1, a2, a3⟩ := ih _ r h' k' n' h
                obtain ⟨q1, q2, q3⟩ := q
                dsimp only at a1 a2 hd hcond hw
                obtain ⟨c1, c2, c3⟩ := hcond
                have hmem : q1 ∈ S := List.elem_iff.mp c3
                have hFF : F' + 1 ≤ F := by
                  rcases hF with z | z
                  · exact z
                  · rw [z] at hw; cases hw
                refine ⟨by omega, by omega, fun mc ms h1 h2 => ?_⟩
                have hMe := hcal _ q1 q2 _ w2 w1 w3 w4 d hmem hd c2 hw
                exact am_call ok (okS q1 hmem).2 hd hq hMe hFF (by omega) (by omega) (by omega) (fun r1 h1' z => by
                  obtain ⟨z1, z2⟩ := z
                  rw [z1, z2]
                  exact a3 mc ms h1 h2)
              · cases h
            · cases h
          · cases h
        · cases h
theorem am_ev_sound (okS : ∀ i ∈ S, am_ok P i ∧ am_hok P i) (fuel : Nat) : ∀ (F L j : Nat) (args : List Value) (h h' : am_H) (r : Option Value) (k n : Nat) (d : am_Hd), j ∈ S → P.2 j = some d → (am_fl args).length ≤ d.2.2.1 → am_ev P sc S fuel F L j args h = some (r, h', k, n) → am_Me P sc F L k n j args h (am_is r h') := by
  intro F
  induction F with
  | zero =>
    intro L j args h h' r k n d hj hd hl hev
    unfold am_ev at hev
    rw [hd] at hev
    obtain ⟨d2, hd2, hh⟩ := (okS j hj).2
    obtain rfl : d = d2 := Option.some.inj (hd.symm.trans hd2)
    have hpl : plainName d.1.cls = true := by unfold am_hck at hh; rw [Bool.and_eq_true] at hh; exact hh.1
    refine am_enter hd hpl hl ?_
    exact (am_go_sound (F' := 0) okS (okS j hj).1 (Or.inr fun _ _ _ _ => rfl) (fun _ _ _ _ _ _ _ _ _ _ _ _ q => by cases q) fuel _ r h' k n hev).2.2 k n (Nat.le_refl _) (Nat.le_refl _)
  | succ F ih =>
    intro L j args h h' r k n d hj hd hl hev
    unfold am_ev at hev
    rw [hd] at hev
    obtain ⟨d2, hd2, hh⟩ := (okS j hj).2
    obtain rfl : d = d2 := Option.some.inj (hd.symm.trans hd2)
    have hpl : plainName d.1.cls = true := by unfold am_hck at hh; rw [Bool.and_eq_true] at hh; exact hh.1
    refine am_enter hd hpl hl ?_
    exact (am_go_sound (F' := F) okS (okS j hj).1 (Or.inl (Nat.le_refl _)) (fun L' j' args h h' r k n d a b c e => ih L' j' args h h' r k n d a b c e) fuel _ r h' k n hev).2.2 k n (Nat.le_refl _) (Nat.le_refl _)
end AM6
