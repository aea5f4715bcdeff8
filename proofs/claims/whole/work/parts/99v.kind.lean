/-! The class reads legs, and the fields of each kind. -/
theorem bad_rk {S : hS} {M : List Nat} {a c : Nat} (h : RD S M a) (b : Bool) (hc : S.2.1 810 2 = nI c) (hc12 : c < 12) (h3 : S.2.1 803 2 = 0) : ∃ S' e, h_Me_readKnownCode (b2i b) S = some S' ∧ RD S' M e ∧ S'.2.1 803 2 = 0 ∧ S'.2.1 810 2 = nI (c + 1) ∧ S'.2.1 812 2 = S.2.1 812 2 ∧ kX S S' := by
  rcases h_rk h b hc hc12 with ⟨q, S', b1, b2, b3, b4, b5, b6, b7, b8, b9⟩ | ⟨q, S', e, b1, b2, b3, b4, b5, b9⟩
  · exact ⟨S', _, b1, b2, b3.trans h3, b4, b5, b9.mono (by decide) (by simp) (by simp) (by simp) (by simp) (by simp)⟩
  · exact ⟨S', e, b1, b2, b3, b4, b5, b9.mono (by decide) (by simp) (by simp) (by simp) (by simp) (by simp)⟩
theorem bad_ra {S : hS} {M : List Nat} {a c : Nat} (h : RD S M a) (hc : S.2.1 812 2 = nI c) (hc4 : c < 4) (h3 : S.2.1 803 2 = 0) : ∃ S', h_Me_readAmount S = some S' ∧ S'.2.1 803 2 = 0 ∧ kX S S' := by
  rcases h_ra h hc hc4 with ⟨q, S', b1, b2, b3, b4, b5, b6, b7⟩ | ⟨q, S', e, b1, b2, b3, b4, b7⟩
  · exact ⟨S', b1, b3.trans h3, b7.mono (by decide) (by simp) (by simp) (by simp) (by simp) (by simp)⟩
  · exact ⟨S', b1, b3, b7.mono (by decide) (by simp) (by simp) (by simp) (by simp) (by simp)⟩
theorem q_leg {S : hS} {M : List Nat} {a : Nat} {cs : List (Bool × List Nat)} {as : List (List Nat)} (h : RQ S M a cs as) (h3 : S.2.1 803 2 = 1) (hc : cs.length + 3 ≤ 12) (ha : as.length < 4) : ∃ S1 S2 S3 S4, h_Me_readKnownCode 0 S = some S1 ∧ h_Me_readKnownCode 0 S1 = some S2 ∧ h_Me_readKnownCode 1 S2 = some S3 ∧ h_Me_readAmount S3 = some S4 ∧ kX S S4 ∧ (((a + 26 + 2 ≤ M.length ∧ isD (sl M (a + 11) 15) = true) ∧ RQ S4 M (a + 26) (cs ++ legC M a) (as ++ [sl M (a + 11) 15]) ∧ S4.2.1 803 2 = 1) ∨ (¬ (a + 26 + 2 ≤ M.length ∧ isD (sl M (a + 11) 15) = true) ∧ S4.2.1 803 2 = 0)) := by
  obtain ⟨S1, a1, a2, a3, a4⟩ := q_rk h false (by omega)
  rcases a4 with ⟨q1, r1, t1⟩ | ⟨q1, t1, e1, r1, n1⟩
  · obtain ⟨S2, b1, b2, b3, b4⟩ := q_rk r1 false (by rw [List.length_append, List.length_singleton]; omega)
    rcases b4 with ⟨q2, r2, t2⟩ | ⟨q2, t2, e2, r2, n2⟩
    · obtain ⟨S3, c1, c2, c3, c4⟩ := q_rk r2 true (by simp only [List.length_append, List.length_singleton]; omega)
      rcases c4 with ⟨q3, r3, t3⟩ | ⟨q3, t3, e3, r3, n3⟩
      · obtain ⟨S4, d1, d2, d3, d4⟩ := q_ra r3 ha
        refine ⟨S1, S2, S3, S4, a1, b1, c1, d1, ((a2.tr b2).tr c2).tr d2, ?_⟩
        rw [if_neg (by decide)] at *
        rw [if_pos rfl] at *
        rcases d4 with ⟨q4, r4, t4⟩ | ⟨q4, t4⟩
        · refine Or.inl ⟨⟨by omega, q4.2⟩, ?_, ((t4.trans t3).trans (t2.trans t1)).trans h3⟩
          have : cs ++ [(false, sl M a 4)] ++ [(false, sl M (a + 4) 4)] ++ [(true, sl M (a + 4 + 4) 3)] = cs ++ legC M a := by
            rw [List.append_assoc, List.append_assoc]; rfl
          rw [this] at r4
          exact r4
        · exact Or.inr ⟨fun c => q4 ⟨by omega, c.2⟩, t4⟩
      · obtain ⟨S4, d1, d2, d3⟩ := bad_ra r3 (c3.trans r2.an) ha t3
        refine ⟨S1, S2, S3, S4, a1, b1, c1, d1, ((a2.tr b2).tr c2).tr d3, Or.inr ⟨fun c => q3 ?_, d2⟩⟩
        simp only [if_true, if_false, Bool.false_eq_true] at *
        omega
    · obtain ⟨S3, e3, c1, c2, c3, c4, c5, c6⟩ := bad_rk r2 true n2 (by rw [List.length_append, List.length_singleton]; omega) t2
      obtain ⟨S4, d1, d2, d3⟩ := bad_ra c2 (c5.trans (b3.trans r1.an)) ha c3
      refine ⟨S1, S2, S3, S4, a1, b1, c1, d1, ((a2.tr b2).tr c6).tr d3, Or.inr ⟨fun c => q2 ?_, d2⟩⟩
      simp only [if_false, Bool.false_eq_true] at *
      omega
  · obtain ⟨S2, e2, b1, b2, b3, b4, b5, b6⟩ := bad_rk r1 false n1 (by omega) t1
    obtain ⟨S3, e3, c1, c2, c3, c4, c5, c6⟩ := bad_rk b2 true b4 (by omega) b3
    obtain ⟨S4, d1, d2, d3⟩ := bad_ra c2 (c5.trans (b5.trans (a3.trans h.an))) ha c3
    refine ⟨S1, S2, S3, S4, a1, b1, c1, d1, ((a2.tr b6).tr c6).tr d3, Or.inr ⟨fun c => q1 ?_, d2⟩⟩
    simp only [if_false, Bool.false_eq_true] at *
    omega
theorem q_legs_loop {M : List Nat} {m : Nat} (hm : m ≤ 4) : ∀ (d fu k : Nat) (S : hS), RQ S M (17 + 26 * k) (legsC M k) (legsA M k) → S.2.1 803 2 = 1 → legsOk M k = true → m - k = d → d < fu → k ≤ m → ∃ S', hl_Me_readLegs_24 fu (nI m) (nI k) S = some S' ∧ kX S S' ∧ (((17 + 26 * m + 2 ≤ M.length ∧ legsOk M m = true) ∧ RQ S' M (17 + 26 * m) (legsC M m) (legsA M m) ∧ S'.2.1 803 2 = 1) ∨ (¬ (17 + 26 * m + 2 ≤ M.length ∧ legsOk M m = true) ∧ S'.2.1 803 2 = 0)) := by
  intro d
  induction d with
  | zero =>
    intro fu k S h h3 hl hd hf hk
    obtain ⟨fu, rfl⟩ : ∃ f, fu = f + 1 := ⟨fu - 1, by omega⟩
    have e : k = m := by omega
    subst e
    refine ⟨S, ?_, hX.rf, Or.inl ⟨⟨h.rd.le, hl⟩, h, h3⟩⟩
    unfold hl_Me_readLegs_24
    rw [if_pos (nI_le0 (by omega) (by omega) (by omega))]
  | succ d ih =>
    intro fu k S h h3 hl hd hf hk
    obtain ⟨fu, rfl⟩ : ∃ f, fu = f + 1 := ⟨fu - 1, by omega⟩
    obtain ⟨S1, S2, S3, S4, a1, a2, a3, a4, a5, a6⟩ := q_leg h h3 (by rw [legsC_len]; omega) (by rw [legsA_len]; omega)
    have hst : hl_Me_readLegs_24 (fu + 1) (nI m) (nI k) S = hl_Me_readLegs_24 fu (nI m) (nI (k + 1)) S4 := by
      conv => lhs; unfold hl_Me_readLegs_24
      rw [if_neg (nI_ngt (by omega) (by omega) (by omega)), h3, if_neg (by decide), a1, Option.bind_some, a2, Option.bind_some, a3, Option.bind_some, a4, Option.bind_some, nI_add1]
    rcases a6 with ⟨q, r, t⟩ | ⟨q, t⟩
    · have hl1 : legsOk M (k + 1) = true := by
        show (legsOk M k && isD (sl M (17 + 26 * k + 11) 15)) = true
        rw [hl, q.2]; rfl
      obtain ⟨S', b1, b2, b3⟩ := ih fu (k + 1) S4 r t hl1 (by omega) (by omega) (by omega)
      exact ⟨S', hst.trans b1, a5.tr b2, b3⟩
    · obtain ⟨fu, rfl⟩ : ∃ f, fu = f + 1 := ⟨fu - 1, by omega⟩
      refine ⟨S4, hst.trans ?_, a5, Or.inr ⟨fun c => q ⟨by omega, ?_⟩, t⟩⟩
      · unfold hl_Me_readLegs_24
        by_cases c : nI m ≤ nI (k + 1)
        · rw [if_pos c]
        · rw [if_neg c, if_pos t]
      · have key : ∀ j, k + 1 ≤ j → legsOk M j = true → isD (sl M (17 + 26 * k + 11) 15) = true := by
          intro j
          induction j with
          | zero => intro h1; omega
          | succ j ihj =>
            intro h1 h2
            have h2' : (legsOk M j && isD (sl M (17 + 26 * j + 11) 15)) = true := h2
            rw [Bool.and_eq_true] at h2'
            by_cases e : j = k
            · rw [← e]; exact h2'.2
            · exact ihj (by omega) h2'.1
        exact key m (by omega) c.2
theorem q_rl {S : hS} {M : List Nat} (h : RQ S M 16 [] []) (h3 : S.2.1 803 2 = 1) : ∃ S', h_Me_readLegs S = some S' ∧ kX S S' ∧ (((17 + 26 * M.getD 16 0 + 2 ≤ M.length ∧ (1 ≤ M.getD 16 0 ∧ M.getD 16 0 ≤ 4) ∧ legsOk M (M.getD 16 0) = true) ∧ RQ S' M (17 + 26 * M.getD 16 0) (legsC M (M.getD 16 0)) (legsA M (M.getD 16 0)) ∧ S'.2.1 803 2 = 1) ∨ (¬ (17 + 26 * M.getD 16 0 + 2 ≤ M.length ∧ (1 ≤ M.getD 16 0 ∧ M.getD 16 0 ≤ 4) ∧ legsOk M (M.getD 16 0) = true) ∧ S'.2.1 803 2 = 0)) := by
  have bad : ∀ (S1 : hS) (v : Int64), h_Me_readDigits 1 S = some (v, S1) → pX S S1 → (Int64.toInt32 v < 1 ∨ ¬ Int64.toInt32 v ≤ 4) → ∃ S', h_Me_readLegs S = some S' ∧ kX S S' ∧ S'.2.1 803 2 = 0 := fun S1 v e w hv => by
    refine ⟨hpI S1 803 2 0, ?_, (w.mono (by decide) (by simp) (by simp) (by simp) (by simp) (by simp)).pI (by decide), by simp [hpI, up2]⟩
    unfold h_Me_readLegs
    rw [e, Option.bind_some]
    have e1 : (if Int64.toInt32 v < 1 then some (hpI S1 803 2 0) else (if Int64.toInt32 v ≤ 4 then some S1 else some (hpI S1 803 2 0))) = some (hpI S1 803 2 0) := by
      by_cases c : Int64.toInt32 v < 1
      · rw [if_pos c]
      · rw [if_neg c, if_neg (hv.resolve_left c)]
    show ((if Int64.toInt32 v < 1 then some (hpI S1 803 2 0) else (if Int64.toInt32 v ≤ 4 then some S1 else some (hpI S1 803 2 0))).bind _) = _
    rw [e1, Option.bind_some]
    have e2 : hl_Me_readLegs_24 (99999 + 1) (Int64.toInt32 v) 0 (hpI S1 803 2 0) = some (hpI S1 803 2 0) := by
      unfold hl_Me_readLegs_24
      by_cases c : Int64.toInt32 v ≤ 0
      · rw [if_pos c]
      · rw [if_neg c, if_pos (by simp [hpI, up2])]
    show ((hl_Me_readLegs_24 (99999 + 1) (Int64.toInt32 v) 0 (hpI S1 803 2 0)).bind _) = _
    rw [e2]; rfl
  rcases h_rd h.rd 1 (by omega) with ⟨⟨q, qd⟩, S1, a1, a2, a3, a4⟩ | ⟨q, S1, b, a1, a2, a3, a4⟩
  · obtain ⟨z, hz⟩ := get_lt (ks := M) (j := 16) (by omega)
    have hg : M.getD 16 0 = z := by rw [List.getD_eq_getElem?_getD, hz]; rfl
    have hb1 : num (sl M 16 1) = z := by rw [sl_one hz]; show 0 * 10 + z = z; omega
    have hz10 : z < 10 := by
      rw [sl_one hz] at qd
      have := List.all_eq_true.mp qd z List.mem_cons_self
      simpa using this
    have a1' : h_Me_readDigits 1 S = some (lI (z : Int), S1) := by rw [← hb1]; exact a1
    rw [hg]
    by_cases hz4 : 1 ≤ z ∧ z ≤ 4
    · have h1 : RQ S1 M (17 + 26 * 0) (legsC M 0) (legsA M 0) := h.p a4 (by decide) a2
      obtain ⟨S', b1, b2, b3⟩ := q_legs_loop (M := M) (m := z) hz4.2 _ 100000 0 S1 h1 (a3.trans h3) rfl rfl (by omega) (by omega)
      refine ⟨S', ?_, (a4.mono (by decide) (by simp) (by simp) (by simp) (by simp) (by simp)).tr b2, ?_⟩
      · unfold h_Me_readLegs
        have b1' : hl_Me_readLegs_24 100000 (nI z) 0 S1 = some S' := b1
        rw [a1', Option.bind_some, lI_to32, if_neg (fun c => by have := (nI_lt' (a := z) (b := 1) (by omega) (by omega)).mp c; omega), if_pos (show nI z ≤ 4 from nI_le0 (b := 4) (by omega) (by omega) hz4.2), Option.bind_some, b1']; rfl
      · rcases b3 with ⟨c1, c2, c3⟩ | ⟨c1, c2⟩
        · exact Or.inl ⟨⟨c1.1, hz4, c1.2⟩, c2, c3⟩
        · exact Or.inr ⟨fun c => c1 ⟨c.1, c.2.2⟩, c2⟩
    · obtain ⟨S', b1, b2, b3⟩ := bad S1 _ a1' a4 (by
        rw [lI_to32]
        by_cases c : 1 ≤ z
        · exact Or.inr (fun w => by have := (nI_le' (a := z) (b := 4) (by omega) (by omega)).mp w; omega)
        · exact Or.inl ((nI_lt' (a := z) (b := 1) (by omega) (by omega)).mpr (by omega)))
      exact ⟨S', b1, b2, Or.inr ⟨fun c => hz4 c.2.1, b3⟩⟩
  · obtain ⟨S', b1, b2, b3⟩ := bad S1 0 a1 a4 (Or.inl (by decide))
    refine ⟨S', b1, b2, Or.inr ⟨fun c => q ⟨by omega, ?_⟩, b3⟩⟩
    obtain ⟨z, hz⟩ := get_lt (ks := M) (j := 16) (by omega)
    have hg : M.getD 16 0 = z := by rw [List.getD_eq_getElem?_getD, hz]; rfl
    rw [sl_one hz]
    rw [hg] at c
    unfold isD
    simp
    omega
/-! By kind. -/
def fLen (k : Nat) (M : List Nat) : Nat := match k with
  | 0 => 4
  | 1 => 21
  | 2 => 20
  | 3 => 22
  | 4 => 22
  | 5 => 2 + 26 * M.getD 16 0
  | 6 => 12
  | 7 => 8
  | 8 => 9
  | 9 => 19
  | 10 => 4
  | 11 => 18
  | 12 => 18
  | _ => 0
def fOk (k : Nat) (M : List Nat) : Prop := match k with
  | 1 => (M.getD 18 0 = 28 ∨ M.getD 18 0 = 12) ∧ isD (sl M 19 15) = true ∧ isD (sl M 34 2) = true
  | 2 => isD (sl M 18 15) = true ∧ isD (sl M 33 2) = true
  | 3 => isD (sl M 22 15) = true
  | 4 => isD (sl M 22 15) = true
  | 5 => (1 ≤ M.getD 15 0 ∧ M.getD 15 0 ≤ 9) ∧ (1 ≤ M.getD 16 0 ∧ M.getD 16 0 ≤ 4) ∧ legsOk M (M.getD 16 0) = true
  | 8 => 1 ≤ M.getD 23 0 ∧ M.getD 23 0 ≤ 9
  | 9 => isD (sl M 19 15) = true
  | 11 => isD (sl M 18 15) = true
  | 12 => isD (sl M 18 15) = true
  | _ => True
def cds (k : Nat) (M : List Nat) : List (Bool × List Nat) := match k with
  | 2 => [(true, sl M 15 3)]
  | 3 => [(true, sl M 15 3), (false, sl M 18 4)]
  | 4 => [(true, sl M 15 3), (false, sl M 18 4)]
  | 5 => legsC M (M.getD 16 0)
  | 6 => [(false, sl M 15 4)]
  | 9 => [(false, sl M 15 4)]
  | 10 => [(false, sl M 15 4)]
  | 11 => [(true, sl M 15 3)]
  | 12 => [(true, sl M 15 3)]
  | _ => []
def ams (k : Nat) (M : List Nat) : List (List Nat) := match k with
  | 1 => [sl M 19 15]
  | 2 => [sl M 18 15]
  | 3 => [sl M 22 15]
  | 4 => [sl M 22 15]
  | 5 => legsA M (M.getD 16 0)
  | 9 => [sl M 19 15]
  | 11 => [sl M 18 15]
  | 12 => [sl M 18 15]
  | _ => []
/-- the other fields -/
def oth (k : Nat) (M : List Nat) (S : hS) : Prop := match k with
  | 0 => S.2.1 814 2 = nI (b36 (sl M 15 4))
  | 1 => S.2.1 814 2 = nI (b36 (sl M 15 3)) ∧ S.2.1 815 2 = b2i (decide (M.getD 18 0 = 28)) ∧ S.2.1 816 2 = nI (num (sl M 34 2))
  | 2 => S.2.1 816 2 = nI (num (sl M 33 2))
  | 5 => S.2.1 817 2 = nI (M.getD 15 0)
  | 6 => S.2.2.1 818 2 = lI (b36 (sl M 19 8) : Nat)
  | 7 => S.2.2.1 818 2 = lI (b36 (sl M 15 8) : Nat)
  | 8 => S.2.2.1 818 2 = lI (b36 (sl M 15 8) : Nat) ∧ S.2.1 817 2 = nI (M.getD 23 0)
  | _ => True
