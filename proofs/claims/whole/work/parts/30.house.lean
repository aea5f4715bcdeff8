/-! The class in one picture: shapes of the cells (kind, length), fields by key (100 * kind + field) and address, arrays by address and place. -/
abbrev hS : Type := List (Nat × Nat) × (Nat → Nat → Int32) × (Nat → Nat → Int64) × (Nat → Nat → Option Nat) × (Nat → Nat → Int32) × (Nat → Nat → Int64) × (Nat → Nat → Option Nat)
def up2 {α : Type} (f : Nat → Nat → α) (k a : Nat) (v : α) : Nat → Nat → α := fun k' a' => if k' = k then (if a' = a then v else f k' a') else f k' a'
def hpI (S : hS) (k a : Nat) (v : Int32) : hS := (S.1, up2 S.2.1 k a v, S.2.2)
def hpL (S : hS) (k a : Nat) (v : Int64) : hS := (S.1, S.2.1, up2 S.2.2.1 k a v, S.2.2.2)
def hpR (S : hS) (k a : Nat) (v : Option Nat) : hS := (S.1, S.2.1, S.2.2.1, up2 S.2.2.2.1 k a v, S.2.2.2.2)
def hpA (S : hS) (a i : Nat) (v : Int32) : hS := (S.1, S.2.1, S.2.2.1, S.2.2.2.1, up2 S.2.2.2.2.1 a i v, S.2.2.2.2.2)
def hpB (S : hS) (a i : Nat) (v : Int64) : hS := (S.1, S.2.1, S.2.2.1, S.2.2.2.1, S.2.2.2.2.1, up2 S.2.2.2.2.2.1 a i v, S.2.2.2.2.2.2)
def hpQ (S : hS) (a i : Nat) (v : Option Nat) : hS := (S.1, S.2.1, S.2.2.1, S.2.2.2.1, S.2.2.2.2.1, S.2.2.2.2.2.1, up2 S.2.2.2.2.2.2 a i v)
def nw1 {α : Type} (f : Nat → Nat → α) (n : Nat) (d : α) : Nat → Nat → α := fun k a => if a = n then d else f k a
def nw2 {α : Type} (f : Nat → Nat → α) (n : Nat) (d : α) : Nat → Nat → α := fun a i => if a = n then d else f a i
/-- one cell more, all of it 0 or null -/
def hNew (S : hS) (kd n : Nat) : hS := (S.1 ++ [(kd, n)], nw1 S.2.1 S.1.length 0, nw1 S.2.2.1 S.1.length 0, nw1 S.2.2.2.1 S.1.length none, nw2 S.2.2.2.2.1 S.1.length 0, nw2 S.2.2.2.2.2.1 S.1.length 0, nw2 S.2.2.2.2.2.2 S.1.length none)
/-- kind 14 is the list of what was sent, 13 the lists of rooms; 28 and 29 their rows -/
def hs_cl (kd : Nat) : Nat := if kd = 14 then 13 else kd
def hs_at (kd : Nat) : Nat := if kd = 29 then 8 else kd - 20
def hs_v (S : hS) (kd k a : Nat) : Value := match am_ft (hs_cl kd) k with
  | .long => .long (S.2.2.1 (100 * kd + k) a)
  | .object _ => va_rf (S.2.2.2.1 (100 * kd + k) a)
  | .array _ => va_rf (S.2.2.2.1 (100 * kd + k) a)
  | _ => .int (S.2.1 (100 * kd + k) a)
def hs_fs (S : hS) (kd a : Nat) : List Value := (List.range (am_cN (hs_cl kd))).map fun k => hs_v S kd k a
def hs_ce (S : hS) (a : Nat) (p : Nat × Nat) : am_Ce :=
  if p.1 < 20 then .inr (hs_cl p.1, hs_fs S p.1 a)
  else if p.1 = 21 then .inl (1, p.2, .inr (.inl (S.2.2.2.2.2.1 a)))
  else if p.1 < 24 then .inl (p.1 - 20, p.2, .inl (S.2.2.2.2.1 a))
  else .inl (hs_at p.1, p.2, .inr (.inr (.inr (.inr (S.2.2.2.2.2.2 a)))))
/-- the cell at b is of this kind -/
def hK (sh : List (Nat × Nat)) (b kd : Nat) : Prop := ∃ n, sh[b]? = some (kd, n)
def hln (sh : List (Nat × Nat)) (b : Nat) : Nat := match sh[b]? with
  | some p => p.2
  | none => 0
def hE (s t : List (Nat × Nat)) : Prop := ∃ u, t = s ++ u
theorem hE.rf {s : List (Nat × Nat)} : hE s s := ⟨[], (List.append_nil s).symm⟩
theorem hE.tr {s t u : List (Nat × Nat)} (h1 : hE s t) (h2 : hE t u) : hE s u := by
  obtain ⟨x, rfl⟩ := h1
  obtain ⟨y, rfl⟩ := h2
  exact ⟨x ++ y, List.append_assoc s x y⟩
theorem hE.get {s t : List (Nat × Nat)} (h : hE s t) {a : Nat} {p : Nat × Nat} (hp : s[a]? = some p) : t[a]? = some p := by
  obtain ⟨x, rfl⟩ := h
  rw [List.getElem?_append_left (List.getElem?_eq_some_iff.mp hp).1]; exact hp
theorem hK.up {s t : List (Nat × Nat)} {b kd : Nat} (h : hK s b kd) (he : hE s t) : hK t b kd := by
  obtain ⟨n, hn⟩ := h
  exact ⟨n, he.get hn⟩
theorem hK.ln {s : List (Nat × Nat)} {b kd : Nat} (h : hK s b kd) : s[b]? = some (kd, hln s b) := by
  obtain ⟨n, hn⟩ := h
  unfold hln
  rw [hn]
theorem hK.un {s : List (Nat × Nat)} {b kd n m : Nat} (h : hK s b kd) (hp : s[b]? = some (m, n)) : m = kd := by
  obtain ⟨n', hn⟩ := h
  rw [hn] at hp
  cases hp; rfl
/-- the kind of an array's elements -/
def hs_ek (kd : Nat) : Nat := match kd with
  | 24 => 9
  | 25 => 3
  | 26 => 10
  | 27 => 7
  | 28 => 10
  | _ => 12
/-- what a reference in a field may point to -/
def hs_ok (sh : List (Nat × Nat)) (key b : Nat) : Prop := match key with
  | 902 => hK sh b 26
  | 903 => hK sh b 13
  | 706 => hK sh b 20
  | 708 => hK sh b 26
  | 709 => hK sh b 21
  | 1202 => hK sh b 22
  | 1300 => b = am_M + 1 ∨ hK sh b 28
  | 1400 => b = am_M + 1 ∨ hK sh b 29
  | _ => True
theorem hs_ok.up {s t : List (Nat × Nat)} {key b : Nat} (he : hE s t) (h : hs_ok s key b) : hs_ok t key b := by
  unfold hs_ok at h ⊢
  split at h
  · exact h.up he
  · exact h.up he
  · exact h.up he
  · exact h.up he
  · exact h.up he
  · exact h.up he
  · exact h.imp id (fun q => q.up he)
  · exact h.imp id (fun q => q.up he)
  · trivial
/-- every reference points to what it should -/
def hWT (S : hS) : Prop := (∀ key a b, S.2.2.2.1 key a = some b → hs_ok S.1 key b) ∧ (∀ a p, S.1[a]? = some p → ∀ i b, S.2.2.2.2.2.2 a i = some b → hK S.1 b (hs_ek p.1)) ∧ (∀ p ∈ hs_fx, S.2.2.2.1 p.1 p.2.1 = some p.2.2) ∧ hE hs_fix S.1
def RH (S : hS) (h : am_H) : Prop := h.length = S.1.length ∧ (∀ a p, S.1[a]? = some p → p.1 ≠ 99 → h[a]? = some (hs_ce S a p)) ∧ hWT S
/-- cells of the reference stay -/
def hF (h h' : am_H) : Prop := ∀ q, 22 ≤ q → q < 60 → h'[q]? = h[q]?
theorem hF.rf {h : am_H} : hF h h := fun _ _ _ => rfl
theorem hF.tr {h1 h2 h3 : am_H} (a : hF h1 h2) (b : hF h2 h3) : hF h1 h3 := fun q x y => (b q x y).trans (a q x y)
theorem hs_lt {sh : List (Nat × Nat)} {b kd : Nat} (h : hK sh b kd) (h9 : kd ≠ 99) (he : hE hs_fix sh) : b < 22 ∨ 60 ≤ b := by
  by_cases h1 : b < 22
  · exact Or.inl h1
  · by_cases h2 : 60 ≤ b
    · exact Or.inr h2
    · exfalso
      have hz : hs_fix[b]? = some (99, 0) := hs_mid b (by omega) (by omega)
      exact h9 (h.un (he.get hz)).symm
theorem hs_cN (ci : Nat) : am_cN ci ≤ 62 := by
  unfold am_cN
  split <;> omega
theorem up2_ne {α : Type} {f : Nat → Nat → α} {k a k' a' : Nat} {v : α} (h : ¬ (k' = k ∧ a' = a)) : up2 f k a v k' a' = f k' a' := by
  unfold up2
  by_cases h1 : k' = k
  · rw [if_pos h1, if_neg (fun h2 => h ⟨h1, h2⟩)]
  · rw [if_neg h1]
theorem up2_eq {α : Type} {f : Nat → Nat → α} {k a : Nat} {v : α} : up2 f k a v k a = v := by
  unfold up2
  rw [if_pos rfl, if_pos rfl]
/-- a value into a field -/
def hs_w (S : hS) (key a : Nat) (v : Value) : hS := match v with
  | .int x => hpI S key a x
  | .long x => hpL S key a x
  | .ref r => hpR S key a (some r)
  | .null => hpR S key a none
  | _ => S
theorem hs_w1 (S : hS) (key a : Nat) (v : Value) : (hs_w S key a v).1 = S.1 := by cases v <;> rfl
theorem hs_w5 (S : hS) (key a : Nat) (v : Value) : (hs_w S key a v).2.2.2.2 = S.2.2.2.2 := by cases v <;> rfl
theorem hs_v_ne {S : hS} {key ad : Nat} {v : Value} {kd k a : Nat} (h : ¬ (100 * kd + k = key ∧ a = ad)) : hs_v (hs_w S key ad v) kd k a = hs_v S kd k a := by
  have hI : ∀ x, (hpI S key ad x).2.1 (100 * kd + k) a = S.2.1 (100 * kd + k) a := fun x => up2_ne h
  have hL : ∀ x, (hpL S key ad x).2.2.1 (100 * kd + k) a = S.2.2.1 (100 * kd + k) a := fun x => up2_ne h
  have hR : ∀ x, (hpR S key ad x).2.2.2.1 (100 * kd + k) a = S.2.2.2.1 (100 * kd + k) a := fun x => up2_ne h
  unfold hs_v
  cases v with
  | int x =>
    show (match am_ft (hs_cl kd) k with | .long => Value.long (S.2.2.1 (100 * kd + k) a) | .object _ => va_rf (S.2.2.2.1 (100 * kd + k) a) | .array _ => va_rf (S.2.2.2.1 (100 * kd + k) a) | _ => Value.int ((hpI S key ad x).2.1 (100 * kd + k) a)) = _
    rw [hI]
  | long x =>
    show (match am_ft (hs_cl kd) k with | .long => Value.long ((hpL S key ad x).2.2.1 (100 * kd + k) a) | .object _ => va_rf (S.2.2.2.1 (100 * kd + k) a) | .array _ => va_rf (S.2.2.2.1 (100 * kd + k) a) | _ => Value.int (S.2.1 (100 * kd + k) a)) = _
    rw [hL]
  | ref r =>
    show (match am_ft (hs_cl kd) k with | .long => Value.long (S.2.2.1 (100 * kd + k) a) | .object _ => va_rf ((hpR S key ad (some r)).2.2.2.1 (100 * kd + k) a) | .array _ => va_rf ((hpR S key ad (some r)).2.2.2.1 (100 * kd + k) a) | _ => Value.int (S.2.1 (100 * kd + k) a)) = _
    rw [hR]
  | null =>
    show (match am_ft (hs_cl kd) k with | .long => Value.long (S.2.2.1 (100 * kd + k) a) | .object _ => va_rf ((hpR S key ad none).2.2.2.1 (100 * kd + k) a) | .array _ => va_rf ((hpR S key ad none).2.2.2.1 (100 * kd + k) a) | _ => Value.int (S.2.1 (100 * kd + k) a)) = _
    rw [hR]
  | _ => rfl
theorem hs_v_eq {S : hS} {ad kd k : Nat} {v : Value} (h : am_pk (am_ft (hs_cl kd) k) v = true) : hs_v (hs_w S (100 * kd + k) ad v) kd k ad = v := by
  have hI : ∀ x, (hpI S (100 * kd + k) ad x).2.1 (100 * kd + k) ad = x := fun x => up2_eq
  have hL : ∀ x, (hpL S (100 * kd + k) ad x).2.2.1 (100 * kd + k) ad = x := fun x => up2_eq
  have hR : ∀ x, (hpR S (100 * kd + k) ad x).2.2.2.1 (100 * kd + k) ad = x := fun x => up2_eq
  unfold hs_v
  generalize am_ft (hs_cl kd) k = ty at h
  unfold am_pk at h
  split at h
  · exact congrArg Value.int (hI _)
  · exact congrArg Value.long (hL _)
  · exact congrArg Value.int (hI _)
  · exact congrArg Value.int (hI _)
  · exact congrArg va_rf (hR _)
  · exact congrArg va_rf (hR _)
  · exact congrArg va_rf (hR _)
  · exact congrArg va_rf (hR _)
  · cases h
theorem hs_fs_set {S : hS} {ad kd k : Nat} {v : Value} (h : am_pk (am_ft (hs_cl kd) k) v = true) (hk : k < am_cN (hs_cl kd)) : (hs_fs S kd ad).set k v = hs_fs (hs_w S (100 * kd + k) ad v) kd ad := by
  unfold hs_fs
  apply List.ext_getElem?
  intro i
  rw [List.getElem?_set]
  by_cases hi : k = i
  · subst hi
    rw [if_pos rfl, if_pos (by simpa using hk), List.getElem?_map, List.getElem?_range hk]
    exact congrArg some (hs_v_eq h).symm
  · rw [if_neg hi, List.getElem?_map, List.getElem?_map]
    cases he : (List.range (am_cN (hs_cl kd)))[i]? with
    | none => rfl
    | some z =>
      have hz : z = i := by
        have := List.getElem?_eq_some_iff.mp he
        obtain ⟨h1, h2⟩ := this
        rw [List.getElem_range] at h2; exact h2.symm
      subst hz
      exact congrArg some (hs_v_ne (fun q => hi (by omega))).symm
theorem hs_fs_ne {S : hS} {key ad kd a : Nat} {v : Value} (h : a ≠ ad ∨ ∀ k, k < am_cN (hs_cl kd) → 100 * kd + k ≠ key) : hs_fs (hs_w S key ad v) kd a = hs_fs S kd a := by
  unfold hs_fs
  apply List.map_congr_left
  intro k hk
  refine hs_v_ne (fun q => ?_)
  rcases h with h | h
  · exact h q.2
  · exact h k (List.mem_range.mp hk) q.1
theorem hs_ce_w {S : hS} {key ad a : Nat} {v : Value} {p : Nat × Nat} (h : a ≠ ad) : hs_ce (hs_w S key ad v) a p = hs_ce S a p := by
  unfold hs_ce
  rw [hs_fs_ne (Or.inl h), hs_w5]
theorem RH.cell {S : hS} {h : am_H} (hR : RH S h) {a kd : Nat} (hk : hK S.1 a kd) (h9 : kd ≠ 99) : h[a]? = some (hs_ce S a (kd, hln S.1 a)) := hR.2.1 a _ hk.ln h9
theorem RH.ob {S : hS} {h : am_H} (hR : RH S h) {a kd : Nat} (hk : hK S.1 a kd) (h20 : kd < 20) : h[a]? = some (.inr (hs_cl kd, hs_fs S kd a)) := by
  rw [hR.cell hk (by omega)]
  unfold hs_ce
  rw [if_pos h20]
theorem RH.ai {S : hS} {h : am_H} (hR : RH S h) {a kd : Nat} (hk : hK S.1 a kd) (h20 : kd = 20 ∨ kd = 22 ∨ kd = 23) : h[a]? = some (.inl (kd - 20, hln S.1 a, .inl (S.2.2.2.2.1 a))) := by
  rw [hR.cell hk (by omega)]
  unfold hs_ce
  rw [if_neg (by dsimp only; omega), if_neg (by dsimp only; omega), if_pos (by dsimp only; omega)]
theorem RH.al {S : hS} {h : am_H} (hR : RH S h) {a : Nat} (hk : hK S.1 a 21) : h[a]? = some (.inl (1, hln S.1 a, .inr (.inl (S.2.2.2.2.2.1 a)))) := by
  rw [hR.cell hk (by omega)]
  rfl
theorem RH.aq {S : hS} {h : am_H} (hR : RH S h) {a kd : Nat} (hk : hK S.1 a kd) (h20 : 24 ≤ kd ∧ kd < 30) : h[a]? = some (.inl (hs_at kd, hln S.1 a, .inr (.inr (.inr (.inr (S.2.2.2.2.2.2 a)))))) := by
  rw [hR.cell hk (by omega)]
  unfold hs_ce
  rw [if_neg (by dsimp only; omega), if_neg (by dsimp only; omega), if_neg (by dsimp only; omega)]
theorem RH_put {S : hS} {h h' : am_H} {ad kd k : Nat} {v : Value} (hR : RH S h) (hk : hK S.1 ad kd) (h20 : kd < 20) (hc : k < am_cN (hs_cl kd)) (hw : hWT (hs_w S (100 * kd + k) ad v)) (hpk : am_pk (am_ft (hs_cl kd) k) v = true) (e1 : h'[ad]? = some (.inr (hs_cl kd, (hs_fs S kd ad).set k v))) (e2 : ∀ q, q ≠ ad → h'[q]? = h[q]?) (e3 : h'.length = h.length) : RH (hs_w S (100 * kd + k) ad v) h' := by
  refine ⟨by rw [e3, hs_w1]; exact hR.1, fun a p hp h9 => ?_, hw⟩
  rw [hs_w1] at hp
  by_cases ha : a = ad
  · subst ha
    obtain ⟨m, n⟩ := p
    have hm := hk.un hp
    subst hm
    rw [e1, hs_fs_set hpk hc]
    unfold hs_ce
    rw [if_pos h20]
  · rw [e2 a ha, hR.2.1 a p hp h9, hs_ce_w ha]
