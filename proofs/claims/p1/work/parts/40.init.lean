/-! The constructors: closed runs by the kernel; the reference's loop by rows. -/
theorem am_aref {args : Array Value} {s : State} {t : Term} {ty : FieldType} (h : (Jvm.Cond.arrayOf t ty).before args s = true) : ∃ a, t.eval args s none [] s = some (.ref a) := by
  cases he : t.eval args s none [] s with
  | none =>
    exfalso
    simp only [Cond.before, Cond.holds, Cond.value, he] at h
    split at h <;> simp at h
  | some v =>
    cases v with
    | ref a => exact ⟨a, rfl⟩
    | _ =>
      exfalso
      simp only [Cond.before, Cond.holds, Cond.value, he] at h
      split at h <;> simp at h
/-- runs on until a place is reached -/
def am_gt (P : am_P) (sc : am_Sc) (S : List Nat) (F L j stop : Nat) (cal : Nat → Nat → List Value → am_H → Option am_O) : Nat → am_St → Option am_St
  | 0, _ => none
  | f + 1, x => if x.1 = stop then some x else match am_f P sc F L j x with
      | some y => am_gt P sc S F L j stop cal f y
      | none => match am_cf P j x with
        | some q => match P.2 q.1 with
          | some d => if 8 + (d.2.2.1 + 11) ≤ L ∧ (am_fl q.2.1).length ≤ d.2.2.1 ∧ S.elem q.1 = true then
              match cal (L - (8 + (d.2.2.1 + 11))) q.1 q.2.1 x.2.2.2.1 with
              | some w => am_gt P sc S F L j stop cal f (x.1 + 3, x.2.1, w.1.toList ++ q.2.2, w.2.1, x.2.2.2.2.1 + w.2.2.1, x.2.2.2.2.2 + w.2.2.2)
              | none => none
            else none
          | none => none
        | none => none
section AM7
variable {P : am_P} {sc : am_Sc} {S : List Nat} {F F' L j stop : Nat} {cal : Nat → Nat → List Value → am_H → Option am_O}
theorem am_gt_sound (okS : ∀ i ∈ S, am_ok P i ∧ am_hok P i) (ok : am_ok P j) (hF : F' + 1 ≤ F) (hcal : ∀ (L' j' : Nat) (args : List Value) (h h' : am_H) (r : Option Value) (k n : Nat) (d : am_Hd), j' ∈ S → P.2 j' = some d → (am_fl args).length ≤ d.2.2.1 → cal L' j' args h = some (r, h', k, n) → am_Me P sc F' L' k n j' args h (am_is r h')) :
    ∀ (f : Nat) (x x' : am_St), am_gt P sc S F L j stop cal f x = some x' → x.2.2.2.2.1 ≤ x'.2.2.2.2.1 ∧ x.2.2.2.2.2 ≤ x'.2.2.2.2.2 ∧ ∀ mc ms Q, x'.2.2.2.2.1 ≤ mc → x'.2.2.2.2.2 ≤ ms → am_S P sc F L mc ms j x' Q → am_S P sc F L mc ms j x Q := by
  intro f
  induction f with
  | zero => intro x x' h; cases h
  | succ f ih =>
    intro x x' h
    unfold am_gt at h
    split at h
    · cases h; exact ⟨Nat.le_refl _, Nat.le_refl _, fun _ _ _ _ _ kk => kk⟩
    · split at h
      · rename_i y hy
        obtain ⟨a1, a2, a3⟩ := ih y x' h
        have hm := am_mono hy
        exact ⟨Nat.le_trans hm.1 a1, Nat.le_trans hm.2 a2, fun mc ms Q h1 h2 kk => am_step ok hy (Nat.le_trans a1 h1) (Nat.le_trans a2 h2) (a3 mc ms Q h1 h2 kk)⟩
      · split at h
        · rename_i q hq
          split at h
          · rename_i d hd
            split at h
            · rename_i hcond
              split at h
              · rename_i w hw
                obtain ⟨w1, w2, w3, w4⟩ := w
                obtain ⟨a1, a2, a3⟩ := ih _ x' h
                obtain ⟨q1, q2, q3⟩ := q
                dsimp only at a1 a2 hd hcond hw
                obtain ⟨c1, c2, c3⟩ := hcond
                have hmem : q1 ∈ S := List.elem_iff.mp c3
                refine ⟨by omega, by omega, fun mc ms Q h1 h2 kk => ?_⟩
                have hMe := hcal _ q1 q2 _ w2 w1 w3 w4 d hmem hd c2 hw
                exact am_call ok (okS q1 hmem).2 hd hq hMe hF (by omega) (by omega) (by omega) (fun r1 h1' z => by
                  obtain ⟨z1, z2⟩ := z
                  rw [z1, z2]
                  exact a3 mc ms Q h1 h2 kk)
              · cases h
            · cases h
          · cases h
        · cases h
end AM7
theorem am_ev_Me {P : am_P} {sc : am_Sc} {S : List Nat} {fuel F L j : Nat} {args : List Value} {h : am_H} {R : Option am_O} {d : am_Hd} (okS : ∀ i ∈ S, am_ok P i ∧ am_hok P i) (hR : am_ev P sc S fuel F L j args h = R) (hs : R.isSome = true) (hj : j ∈ S) (hd : P.2 j = some d) (hl : (am_fl args).length ≤ d.2.2.1) : am_Me P sc F L (R.get hs).2.2.1 (R.get hs).2.2.2 j args h (am_is (R.get hs).1 (R.get hs).2.1) := by
  refine am_ev_sound okS fuel F L j args h _ _ _ _ d hj hd hl ?_
  rw [hR]
  exact (Option.some_get hs).symm
theorem am_Me_eq {P : am_P} {sc : am_Sc} {F L mc ms mc' ms' j : Nat} {args : List Value} {h h1 : am_H} {r r' : Option Value} (e1 : mc = mc') (e2 : ms = ms') (e3 : r = r') (hM : am_Me P sc F L mc ms j args h (am_is r h1)) : am_Me P sc F L mc' ms' j args h (am_is r' h1) := by
  subst e1; subst e2; subst e3; exact hM
theorem am_gt_get {P : am_P} {sc : am_Sc} {S : List Nat} {fuel f F L j stop mc ms : Nat} {x : am_St} {Q : Option Value → am_H → Prop} {R : Option am_St} (okS : ∀ i ∈ S, am_ok P i ∧ am_hok P i) (ok : am_ok P j) (hR : am_gt P sc S (F + 1) L j stop (am_ev P sc S fuel F) f x = R) (hs : R.isSome = true) {pc : Nat} {lo : am_Lo} {st : List Value} {h : am_H} {k n : Nat} (hx : R.get hs = (pc, lo, st, h, k, n)) (hk : k ≤ mc) (hn : n ≤ ms) (kk : am_S P sc (F + 1) L mc ms j (pc, lo, st, h, k, n) Q) : am_S P sc (F + 1) L mc ms j x Q := by
  have h1 : am_gt P sc S (F + 1) L j stop (am_ev P sc S fuel F) f x = some (pc, lo, st, h, k, n) := by
    rw [hR, ← hx]; exact (Option.some_get hs).symm
  exact (am_gt_sound (F' := F) okS ok (Nat.le_refl _) (fun L' j' args h h' r k n d a b c e => am_ev_sound okS fuel F L' j' args h h' r k n d a b c e) f x _ h1).2.2 mc ms Q hk hn kk
theorem am_st_eq {x : am_St} {pc : Nat} {lo : am_Lo} {st : List Value} {k n : Nat} (h1 : x.1 = pc) (h2 : x.2.1 = lo) (h3 : x.2.2.1 = st) (h4 : x.2.2.2.2.1 = k) (h5 : x.2.2.2.2.2 = n) : x = (pc, lo, st, x.2.2.2.1, k, n) := by
  obtain ⟨a, b, c, d, e, f⟩ := x
  dsimp only at h1 h2 h3 h4 h5
  subst h1; subst h2; subst h3; subst h4; subst h5
  rfl
