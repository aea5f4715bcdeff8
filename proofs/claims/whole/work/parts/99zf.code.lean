/-! The codes of a message: both. -/
def cdO (z : Z) (c : Bool × List Nat) : Option Nat := if c.1 then z.fa c.2 else z.fm c.2
/-- the first that is not there -/
def cdF (z : Z) : List (Bool × List Nat) → Nat
  | [] => 0
  | c :: l => match cdO z c with
    | none => if c.1 then 5 else 4
    | some _ => cdF z l
theorem cdO_lt {n : Nat} {z : Z} (hO : okZ n z) {c : Bool × List Nat} {v : Nat} (h : cdO z c = some v) : v < 256 := by
  unfold cdO at h
  have := hO.mem
  have := hO.ast
  split at h
  · have := fa_lt h; omega
  · have := (fm_lt h).1; omega
theorem nI_nm1 {v : Nat} (h : v < 256) : nI v ≠ -1 := fun q => by
  have h1 := nI_toInt1 (a := v) (by omega)
  rw [q] at h1
  have : ((-1 : Int32)).toInt = -1 := by decide
  rw [this] at h1
  omega
theorem h_codes_loop {n : Nat} {z : Z} {g : hG} (hO : okZ n z) {cs : List (Bool × List Nat)} (hl : cs.length ≤ 12) (hc : ∀ c ∈ cs, c.2.length = (if c.1 then 3 else 4) ∧ is36 c.2) : ∀ (d fu j : Nat) (S : hS), cs.length - j = d → d < fu → j ≤ cs.length → HB S z g → S.2.1 810 2 = nI cs.length → (∀ (t : Nat) (c : Bool × List Nat), cs[t]? = some c → S.2.2.2.2.1 3 t = nI (b36 c.2) ∧ S.2.2.2.2.1 4 t = b2i c.1) → (∀ (t : Nat) (c : Bool × List Nat), t < j → cs[t]? = some c → ∃ v, cdO z c = some v ∧ S.2.2.2.2.1 5 t = nI v) → ∃ S', hl_De_findCodes_2 fu (nI j) S = some (nI (cdF z (cs.drop j)), S') ∧ hX [] [] [] [5] [] [] S S' ∧ (cdF z (cs.drop j) = 0 → ∀ (t : Nat) (c : Bool × List Nat), cs[t]? = some c → ∃ v, cdO z c = some v ∧ S'.2.2.2.2.1 5 t = nI v) := by
  have hm := hO.mem
  intro d
  induction d with
  | zero =>
    intro fu j S hd hf hj hB h810 hr hp
    obtain ⟨fu, rfl⟩ : ∃ f, fu = f + 1 := ⟨fu - 1, by omega⟩
    refine ⟨S, ?_, hX.rf, fun _ t c ht => hp t c (by have := get_lt' ht; omega) ht⟩
    unfold hl_De_findCodes_2
    rw [h810, if_pos (nI_le0 (by omega) (by omega) (by omega)), List.drop_of_length_le (by omega)]; rfl
  | succ d ih =>
    intro fu j S hd hf hj hB h810 hr hp
    obtain ⟨fu, rfl⟩ : ∃ f, fu = f + 1 := ⟨fu - 1, by omega⟩
    obtain ⟨c, hcj⟩ := get_lt (ks := cs) (j := j) (by omega)
    obtain ⟨r1, r2⟩ := hr j c hcj
    obtain ⟨l1, l2⟩ := hc c (List.mem_of_getElem? hcj)
    have hfd : (if (b2i c.1 : Int32) = 0 then ((h_Bo_findParticipant (nI (b36 c.2)) S).bind fun q16 => (some q16)) else ((h_Bo_findAsset (nI (b36 c.2)) S).bind fun q24 => (some q24))) = some (oI (cdO z c)) := by
      unfold cdO
      cases hb : c.1 with
      | false =>
        rw [hb] at l1
        rw [if_pos (by decide), h_findP hB hm.2 hO.cod l1 l2, Option.bind_some]; rfl
      | true =>
        rw [hb] at l1
        rw [if_neg (by decide), h_findA hB hO.ast (fun x hx => ⟨(hO.acd x hx).1, (hO.acd x hx).2.1⟩) l1 l2, Option.bind_some]; rfl
    have hread : ∀ u, (hpA S 5 j u).2.2.2.2.1 5 j = u := fun u => by
      show up2 S.2.2.2.2.1 5 j u 5 j = _
      exact up2_eq
    have hun : hl_De_findCodes_2 (fu + 1) (nI j) S = (if ¬ (oI (cdO z c) : Int32) = (-1) then (hl_De_findCodes_2 fu (nI (j + 1)) (hpA S 5 j (oI (cdO z c)))) else (if (b2i c.1 : Int32) = 0 then (some (4, (hpA S 5 j (oI (cdO z c))))) else (some (5, (hpA S 5 j (oI (cdO z c))))))) := by
      conv => lhs; unfold hl_De_findCodes_2
      rw [h810, if_neg (nI_ngt (by omega) (by omega) (by omega)), ix_N (by omega) (by omega), Option.bind_some, r1, r2, hfd, Option.bind_some, hread, nI_add1]
    have w : hX [] [] [] [5] [] [] S (hpA S 5 j (oI (cdO z c))) := hX.rf.pA (by decide)
    rw [hun, drop_cons hcj]
    cases ho : cdO z c with
    | none =>
      rw [ho] at w
      refine ⟨_, ?_, w, fun h0 => ?_⟩
      · rw [if_neg (by decide)]
        unfold cdF
        rw [ho]
        cases c.1 <;> rfl
      · unfold cdF at h0
        rw [ho] at h0
        cases hb : c.1 <;> rw [hb] at h0 <;> cases h0
    | some v =>
      rw [ho] at w
      have hv := cdO_lt hO ho
      have ec : cdF z (c :: cs.drop (j + 1)) = cdF z (cs.drop (j + 1)) := by
        conv => lhs; unfold cdF
        rw [ho]
      obtain ⟨S', a1, a2, a3⟩ := ih fu (j + 1) (hpA S 5 j (nI v)) (by omega) (by omega) (by omega) (hB.xk w (by simp) (by simp) (by simp) rfl rfl) h810 (fun t c' ht => ⟨(w.ea _ (by decide) _).trans (hr t c' ht).1, (w.ea _ (by decide) _).trans (hr t c' ht).2⟩) (fun t c' ht hct => by
        show ∃ v', _ ∧ up2 S.2.2.2.2.1 5 j (nI v) 5 t = _
        rw [up2_at]
        by_cases e : t = j
        · subst e
          rw [hcj] at hct; cases hct
          exact ⟨v, ho, if_pos rfl⟩
        · obtain ⟨v', p1, p2⟩ := hp t c' (by omega) hct
          exact ⟨v', p1, by rw [if_neg e]; exact p2⟩)
      rw [ec]
      refine ⟨S', ?_, w.tr a2, a3⟩
      rw [if_pos (show ¬ (oI (some v) : Int32) = -1 from nI_nm1 hv)]
      exact a1
theorem h_codes {n : Nat} {S : hS} {z : Z} {g : hG} (hB : HB S z g) (hO : okZ n z) {cs : List (Bool × List Nat)} (hl : cs.length ≤ 12) (hc : ∀ c ∈ cs, c.2.length = (if c.1 then 3 else 4) ∧ is36 c.2) (h810 : S.2.1 810 2 = nI cs.length) (hr : ∀ (t : Nat) (c : Bool × List Nat), cs[t]? = some c → S.2.2.2.2.1 3 t = nI (b36 c.2) ∧ S.2.2.2.2.1 4 t = b2i c.1) : ∃ S', h_De_findCodes S = some (nI (cdF z cs), S') ∧ hX [] [] [] [5] [] [] S S' ∧ (cdF z cs = 0 → ∀ (t : Nat) (c : Bool × List Nat), cs[t]? = some c → ∃ v, cdO z c = some v ∧ S'.2.2.2.2.1 5 t = nI v) := by
  obtain ⟨S', a1, a2, a3⟩ := h_codes_loop hO hl hc _ 100000 0 S rfl (by omega) (by omega) hB h810 hr (fun t c ht => by omega)
  rw [List.drop_zero] at a1 a3
  exact ⟨S', a1, a2, a3⟩
/-! The reference. -/
def legsD (M : List Nat) : Nat → Nat → List (Bool × List Nat)
  | _, 0 => []
  | j, d + 1 => legC M (17 + 26 * j) ++ legsD M (j + 1) d
theorem legsD_snoc (M : List Nat) : ∀ (d j : Nat), legsD M j (d + 1) = legsD M j d ++ legC M (17 + 26 * (j + d)) := by
  intro d
  induction d with
  | zero => intro j; show legC M _ ++ [] = [] ++ legC M _; rw [List.append_nil]; rfl
  | succ d ih =>
    intro j
    have e : legsD M j (d + 2) = legC M (17 + 26 * j) ++ legsD M (j + 1) (d + 1) := rfl
    rw [e, ih (j + 1), ← List.append_assoc, show j + 1 + d = j + (d + 1) by omega]; rfl
theorem legsC_D (M : List Nat) : ∀ m, legsC M m = legsD M 0 m := by
  intro m
  induction m with
  | zero => rfl
  | succ m ih =>
    rw [legsD_snoc, ← ih, Nat.zero_add]; rfl
theorem oI_ge {o : Option Nat} (h : ∀ v, o = some v → v < 256) : (0 : Int32) ≤ oI o ↔ o.isSome = true := by
  cases o with
  | none => exact ⟨fun q => absurd q (by decide), fun q => by cases q⟩
  | some v => exact ⟨fun _ => rfl, fun _ => nI_le0 (a := 0) (by omega) (by have := h v rfl; omega) (Nat.zero_le _)⟩
theorem oI_lt0 {o : Option Nat} (h : ∀ v, o = some v → v < 256) : oI o < 0 ↔ o = none := by
  cases o with
  | none => exact ⟨fun _ => rfl, fun _ => by decide⟩
  | some v => exact ⟨fun q => absurd ((oI_ge h).mpr rfl) (Int32.not_le.mpr q), fun q => by cases q⟩
