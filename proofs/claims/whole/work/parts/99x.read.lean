/-! The class reads a message. -/
def chkS (r z : Nat) : Nat := if z < 10 then (10 * r + z) % 97 else (100 * r + z) % 97
def chk (M : List Nat) : Nat := M.foldl chkS 0
theorem chk_app (M : List Nat) (z : Nat) : chk (M ++ [z]) = chkS (chk M) z := by
  unfold chk
  rw [List.foldl_append]; rfl
theorem chkS_lt (r z : Nat) : chkS r z < 97 := by
  unfold chkS
  split <;> exact Nat.mod_lt _ (by decide)
theorem chk_lt (M : List Nat) : chk M < 97 := by
  by_cases h : M = []
  · rw [h]; decide
  · rw [← List.dropLast_concat_getLast h, chk_app]; exact chkS_lt _ _
/-- kinds by their names -/
def mt (b0 b1 b2 : Int32) (k : Nat) : Prop := b0 = am_names.getD (3 * k) 0 ∧ b1 = am_names.getD (3 * k + 1) 0 ∧ b2 = am_names.getD (3 * k + 2) 0
theorem mt_un0 : ∀ j k : Fin 15, (am_names.getD (3 * j.val) 0 = am_names.getD (3 * k.val) 0 ∧ am_names.getD (3 * j.val + 1) 0 = am_names.getD (3 * k.val + 1) 0 ∧ am_names.getD (3 * j.val + 2) 0 = am_names.getD (3 * k.val + 2) 0) → j = k := by decide +kernel
theorem mt_un {b0 b1 b2 : Int32} {j k : Nat} (hj : j < 15) (hk : k < 15) (h1 : mt b0 b1 b2 j) (h2 : mt b0 b1 b2 k) : j = k := by
  have := mt_un0 ⟨j, hj⟩ ⟨k, hk⟩ ⟨h1.1.symm.trans h2.1, h1.2.1.symm.trans h2.2.1, h1.2.2.symm.trans h2.2.2⟩
  exact congrArg Fin.val this
theorem kn_sl : am_sl 6 = some (nI 45) := by decide +kernel
theorem kn_sc : ∀ j : Fin 45, am_sc 6 (nI j.val) = some (am_names.getD j.val 0) := by decide +kernel
theorem kn_at {j : Nat} (h : j < 45) : am_sc 6 (nI j) = some (am_names.getD j 0) := kn_sc ⟨j, h⟩
/-- the kind that it is -/
def isKd (b0 b1 b2 : Int32) (r : Option Nat) : Prop := (r = none ∧ ∀ k, k < 15 → ¬ mt b0 b1 b2 k) ∨ ∃ k, k < 15 ∧ mt b0 b1 b2 k ∧ r = some k
theorem isKd_un {b0 b1 b2 : Int32} {r r' : Option Nat} (h : isKd b0 b1 b2 r) (h' : isKd b0 b1 b2 r') : r = r' := by
  rcases h with ⟨a, b⟩ | ⟨k, a, b, c⟩ <;> rcases h' with ⟨a', b'⟩ | ⟨k', a', b', c'⟩
  · rw [a, a']
  · exact absurd b' (b k' a')
  · exact absurd b (b' k a)
  · rw [c, c', mt_un a a' b b']
theorem h_kind_loop {S : hS} : ∀ (d fu k : Nat), 15 - k = d → d < fu → k ≤ 15 → (∀ j, j < k → ¬ mt (S.2.2.2.2.1 1 0) (S.2.2.2.2.1 1 1) (S.2.2.2.2.1 1 2) j) → ∃ r, hl_Me_readKind_7 fu (nI (3 * k)) S = some (oI r, S) ∧ isKd (S.2.2.2.2.1 1 0) (S.2.2.2.2.1 1 1) (S.2.2.2.2.1 1 2) r := by
  have x0 : am_ix 0 400 = some 0 := by decide
  have x1 : am_ix 1 400 = some 1 := by decide
  have x2 : am_ix 2 400 = some 2 := by decide
  intro d
  induction d with
  | zero =>
    intro fu k hd hf hk hn
    obtain ⟨fu, rfl⟩ : ∃ f, fu = f + 1 := ⟨fu - 1, by omega⟩
    refine ⟨none, ?_, Or.inl ⟨rfl, fun j hj => hn j (by omega)⟩⟩
    unfold hl_Me_readKind_7
    rw [kn_sl, Option.bind_some, show nI (3 * k) + 3 = nI (3 * k + 3) from am_nadd _ 3, if_pos ((nI_lt' (by omega) (by omega)).mpr (by omega))]
    rfl
  | succ d ih =>
    intro fu k hd hf hk hn
    obtain ⟨fu, rfl⟩ : ∃ f, fu = f + 1 := ⟨fu - 1, by omega⟩
    have e3 : nI (3 * k) + 3 = nI (3 * (k + 1)) := (am_nadd _ 3).trans (by rw [show 3 * k + 3 = 3 * (k + 1) by omega])
    have e1 : nI (3 * k) + 1 = nI (3 * k + 1) := am_nadd _ 1
    have e2 : nI (3 * k) + 2 = nI (3 * k + 2) := am_nadd _ 2
    have next : ¬ mt (S.2.2.2.2.1 1 0) (S.2.2.2.2.1 1 1) (S.2.2.2.2.1 1 2) k → ∃ r, hl_Me_readKind_7 fu (nI (3 * (k + 1))) S = some (oI r, S) ∧ isKd (S.2.2.2.2.1 1 0) (S.2.2.2.2.1 1 1) (S.2.2.2.2.1 1 2) r := fun hm => ih fu (k + 1) (by omega) (by omega) (by omega) (fun j hj => by
      by_cases e : j = k
      · rw [e]; exact hm
      · exact hn j (by omega))
    have hst : hl_Me_readKind_7 (fu + 1) (nI (3 * k)) S = (if ¬ ((S.2.2.2.2.1 1 0) : Int32) = am_names.getD (3 * k) 0 then (hl_Me_readKind_7 fu (nI (3 * (k + 1))) S) else (if ¬ ((S.2.2.2.2.1 1 1) : Int32) = am_names.getD (3 * k + 1) 0 then (hl_Me_readKind_7 fu (nI (3 * (k + 1))) S) else (if ¬ ((S.2.2.2.2.1 1 2) : Int32) = am_names.getD (3 * k + 2) 0 then (hl_Me_readKind_7 fu (nI (3 * (k + 1))) S) else (some ((nI (3 * k) / 3), S))))) := by
      conv => lhs; unfold hl_Me_readKind_7
      rw [kn_sl, Option.bind_some, e3, if_neg (fun c => by have := (nI_lt' (by omega) (by omega)).mp c; omega), x0, Option.bind_some, kn_at (by omega), Option.bind_some, x1, Option.bind_some, e1, kn_at (by omega), Option.bind_some, x2, Option.bind_some, e2, kn_at (by omega), Option.bind_some]
    rw [hst]
    by_cases c0 : S.2.2.2.2.1 1 0 = am_names.getD (3 * k) 0
    · rw [if_neg (fun q => q c0)]
      by_cases c1 : S.2.2.2.2.1 1 1 = am_names.getD (3 * k + 1) 0
      · rw [if_neg (fun q => q c1)]
        by_cases c2 : S.2.2.2.2.1 1 2 = am_names.getD (3 * k + 2) 0
        · rw [if_neg (fun q => q c2)]
          refine ⟨some k, ?_, Or.inr ⟨k, by omega, ⟨c0, c1, c2⟩, rfl⟩⟩
          rw [show (3 : Int32) = nI 3 from rfl, nI_div' (by omega) (by omega) (by omega), show 3 * k / 3 = k by omega]
          rfl
        · rw [if_pos c2]; exact next (fun c => c2 c.2.2)
      · rw [if_pos c1]; exact next (fun c => c1 c.2.1)
    · rw [if_pos c0]; exact next (fun c => c0 c.1)
theorem nI_mod {x : Nat} (h : x < 2147483648) : nI x - nI x / 97 * 97 = nI (x % 97) := by
  rw [show (97 : Int32) = nI 97 from rfl, nI_div' h (by omega) (by omega), nI_mul, nI_sub' (by omega)]
  congr 1
  omega
theorem h_chk_loop {S : hS} {M : List Nat} (ln : S.2.1 801 2 = nI M.length) (hn : M.length ≤ 400) (m36 : is36 M) (tx : ∀ (j z : Nat), M[j]? = some z → S.2.2.2.2.1 1 j = nI (chr36 z)) : ∀ (d fu j : Nat), M.length - j = d → d < fu → j ≤ M.length → hl_Me_hasRightCheckDigits_4 fu (nI (chk (M.take j))) (nI j) S = some (nI (chk M)) := by
  intro d
  induction d with
  | zero =>
    intro fu j hd hf hj
    obtain ⟨fu, rfl⟩ : ∃ f, fu = f + 1 := ⟨fu - 1, by omega⟩
    unfold hl_Me_hasRightCheckDigits_4
    rw [ln, if_pos (nI_le0 (by omega) (by omega) (by omega)), List.take_of_length_le (by omega)]
  | succ d ih =>
    intro fu j hd hf hj
    obtain ⟨fu, rfl⟩ : ∃ f, fu = f + 1 := ⟨fu - 1, by omega⟩
    obtain ⟨z, hz⟩ := get_lt (ks := M) (j := j) (by omega)
    have hz36 := m36 z (List.mem_of_getElem? hz)
    have hl := chk_lt (M.take j)
    have IH := ih fu (j + 1) (by omega) (by omega) (by omega)
    rw [take_snoc hz, chk_app] at IH
    unfold hl_Me_hasRightCheckDigits_4
    rw [ln, if_neg (nI_ngt (by omega) (by omega) (by omega)), ix_N (by omega) (by omega), Option.bind_some, tx j z hz, me_dig hz36, Option.bind_some, me_val hz36]
    unfold chkS at IH
    by_cases h10 : z < 10
    · rw [decide_eq_true h10, if_neg (by decide), Option.bind_some, Option.bind_some, show (10 : Int32) = nI 10 from rfl, nI_mul, nI_add', nI_mod (by omega), nI_add1]
      rw [if_pos h10, Nat.mul_comm] at IH
      exact IH
    · rw [decide_eq_false h10, if_pos (by decide), Option.bind_some, Option.bind_some, show (100 : Int32) = nI 100 from rfl, nI_mul, nI_add', nI_mod (by omega), nI_add1]
      rw [if_neg h10, Nat.mul_comm] at IH
      exact IH
/-- bytes that are letters and digits -/
def sg (b : Int32) : Prop := ∃ z, z < 36 ∧ b = nI (chr36 z)
theorem i32_nI {b : Int32} (h : 0 ≤ b.toInt) : b = nI b.toInt.toNat := by
  apply Int32.toInt.inj
  have h1 := Int32.toInt_lt b
  rw [nI_toInt1 (by omega)]
  omega
theorem sg_iff (b : Int32) : sg b ↔ (48 ≤ b ∧ b ≤ 57) ∨ (65 ≤ b ∧ b ≤ 90) := by
  have e48 : (48 : Int32).toInt = 48 := by decide
  have e57 : (57 : Int32).toInt = 57 := by decide
  have e65 : (65 : Int32).toInt = 65 := by decide
  have e90 : (90 : Int32).toInt = 90 := by decide
  rw [Int32.le_iff_toInt_le, Int32.le_iff_toInt_le, Int32.le_iff_toInt_le, Int32.le_iff_toInt_le, e48, e57, e65, e90]
  constructor
  · rintro ⟨z, hz, rfl⟩
    have := chr36_lt hz
    rw [nI_toInt1 (by omega)]
    unfold chr36
    split <;> omega
  · intro h
    have hb := i32_nI (b := b) (by omega)
    rcases h with h | h
    · refine ⟨b.toInt.toNat - 48, by omega, ?_⟩
      rw [hb]
      congr 1
      unfold chr36
      rw [← hb, if_pos (by omega)]; omega
    · refine ⟨b.toInt.toNat - 55, by omega, ?_⟩
      rw [hb]
      congr 1
      unfold chr36
      rw [← hb, if_neg (by omega)]; omega
theorem txt_ex {f : Nat → Int32} : ∀ {n : Nat}, (∀ j, j < n → sg (f j)) → ∃ M : List Nat, M.length = n ∧ is36 M ∧ ∀ (j z : Nat), M[j]? = some z → f j = nI (chr36 z) := by
  intro n
  induction n with
  | zero => intro _; exact ⟨[], rfl, fun z hz => (by cases hz), fun j z h => (by cases h)⟩
  | succ n ih =>
    intro h
    obtain ⟨M, a, b, c⟩ := ih (fun j hj => h j (by omega))
    obtain ⟨z, hz, e⟩ := h n (by omega)
    refine ⟨M ++ [z], by rw [List.length_append, a]; rfl, fun x hx => ?_, fun j x hx => ?_⟩
    · rcases List.mem_append.mp hx with q | q
      · exact b x q
      · rw [List.mem_singleton.mp q]; exact hz
    · rcases get_snoc' hx with q | ⟨q1, q2⟩
      · exact c j x q
      · rw [q1, q2, a]; exact e
theorem h_let_loop {S : hS} {n : Nat} (ln : S.2.1 801 2 = nI n) (hn : n ≤ 400) : ∀ (d fu j : Nat), n - j = d → d < fu → j ≤ n → ((∀ i, j ≤ i → i < n → sg (S.2.2.2.2.1 1 i)) ∧ hl_Me_hasLettersAndDigitsAlone_2 fu (nI j) S = some 1) ∨ ((¬ ∀ i, j ≤ i → i < n → sg (S.2.2.2.2.1 1 i)) ∧ hl_Me_hasLettersAndDigitsAlone_2 fu (nI j) S = some 0) := by
  intro d
  induction d with
  | zero =>
    intro fu j hd hf hj
    obtain ⟨fu, rfl⟩ : ∃ f, fu = f + 1 := ⟨fu - 1, by omega⟩
    refine Or.inl ⟨fun i h1 h2 => by omega, ?_⟩
    unfold hl_Me_hasLettersAndDigitsAlone_2
    rw [ln, if_pos (nI_le0 (by omega) (by omega) (by omega))]
  | succ d ih =>
    intro fu j hd hf hj
    obtain ⟨fu, rfl⟩ : ∃ f, fu = f + 1 := ⟨fu - 1, by omega⟩
    have IH := ih fu (j + 1) (by omega) (by omega) (by omega)
    have hst : hl_Me_hasLettersAndDigitsAlone_2 (fu + 1) (nI j) S = ((h_Me_isDigit (S.2.2.2.2.1 1 j)).bind fun q5 => (if ¬ (q5 : Int32) = 0 then (hl_Me_hasLettersAndDigitsAlone_2 fu (nI (j + 1)) S) else (if ((S.2.2.2.2.1 1 j) : Int32) < 65 then (some 0) else (if ((S.2.2.2.2.1 1 j) : Int32) ≤ 90 then (hl_Me_hasLettersAndDigitsAlone_2 fu (nI (j + 1)) S) else (some 0))))) := by
      conv => lhs; unfold hl_Me_hasLettersAndDigitsAlone_2
      rw [ln, if_neg (nI_ngt (by omega) (by omega) (by omega)), ix_N (by omega) (by omega), Option.bind_some, nI_add1]
    rw [hst]
    have hsg := sg_iff (S.2.2.2.2.1 1 j)
    have good : sg (S.2.2.2.2.1 1 j) → ((∀ i, j ≤ i → i < n → sg (S.2.2.2.2.1 1 i)) ∧ hl_Me_hasLettersAndDigitsAlone_2 fu (nI (j + 1)) S = some 1) ∨ ((¬ ∀ i, j ≤ i → i < n → sg (S.2.2.2.2.1 1 i)) ∧ hl_Me_hasLettersAndDigitsAlone_2 fu (nI (j + 1)) S = some 0) := fun hg => by
      rcases IH with ⟨a, b⟩ | ⟨a, b⟩
      · exact Or.inl ⟨fun i h1 h2 => by
          by_cases e : i = j
          · rw [e]; exact hg
          · exact a i (by omega) h2, b⟩
      · exact Or.inr ⟨fun c => a (fun i h1 h2 => c i (by omega) h2), b⟩
    have bad : ¬ sg (S.2.2.2.2.1 1 j) → ¬ ∀ i, j ≤ i → i < n → sg (S.2.2.2.2.1 1 i) := fun hb c => hb (c j (Nat.le_refl _) (by omega))
    have l1 : ∀ {x y : Int32}, ¬ x < y ↔ y ≤ x := fun {x y} => Int32.not_lt
    have l2 : ∀ {x y : Int32}, ¬ x ≤ y ↔ y < x := fun {x y} => Int32.not_le
    unfold h_Me_isDigit
    by_cases d1 : S.2.2.2.2.1 1 j < 48
    · have n1 : ¬ sg (S.2.2.2.2.1 1 j) := fun c => by
        rcases hsg.mp c with q | q
        · exact (l1.mpr q.1) d1
        · exact (l1.mpr q.1) (Int32.lt_trans d1 (by decide))
      rw [if_pos d1, Option.bind_some, if_neg (by decide), if_pos (Int32.lt_trans d1 (by decide))]
      exact Or.inr ⟨bad n1, rfl⟩
    · rw [if_neg d1]
      by_cases d2 : 57 < S.2.2.2.2.1 1 j
      · rw [if_pos d2, Option.bind_some, if_neg (by decide)]
        by_cases d3 : S.2.2.2.2.1 1 j < 65
        · rw [if_pos d3]
          refine Or.inr ⟨bad (fun c => ?_), rfl⟩
          rcases hsg.mp c with q | q
          · exact (l2.mpr d2) q.2
          · exact (l1.mpr q.1) d3
        · rw [if_neg d3]
          by_cases d4 : S.2.2.2.2.1 1 j ≤ 90
          · rw [if_pos d4]; exact good (hsg.mpr (Or.inr ⟨l1.mp d3, d4⟩))
          · rw [if_neg d4]
            refine Or.inr ⟨bad (fun c => ?_), rfl⟩
            rcases hsg.mp c with q | q
            · exact (l2.mpr d2) q.2
            · exact d4 q.2
      · rw [if_neg d2, Option.bind_some, if_pos (by decide)]
        exact good (hsg.mpr (Or.inl ⟨l1.mp d1, l1.mp d2⟩))
/-! A message, and what the class knows of it when it has read it. -/
def TXT (f : Nat → Int32) (n : Nat) (M : List Nat) : Prop := (M.length = n) ∧ (is36 M) ∧ (∀ (j z : Nat), M[j]? = some z → f j = nI (chr36 z))
theorem TXT.len {f : Nat → Int32} {n : Nat} {M : List Nat} (h : TXT f n M) : M.length = n := h.1
theorem TXT.m36 {f : Nat → Int32} {n : Nat} {M : List Nat} (h : TXT f n M) : is36 M := h.2.1
theorem TXT.tx {f : Nat → Int32} {n : Nat} {M : List Nat} (h : TXT f n M) : ∀ (j z : Nat), M[j]? = some z → f j = nI (chr36 z) := h.2.2
theorem TXT.un {f : Nat → Int32} {n : Nat} {M M' : List Nat} (h : TXT f n M) (h' : TXT f n M') : M = M' := by
  apply List.ext_getElem?
  intro j
  by_cases hj : j < n
  · obtain ⟨z, hz⟩ := get_lt (ks := M) (j := j) (by rw [h.len]; exact hj)
    obtain ⟨z', hz'⟩ := get_lt (ks := M') (j := j) (by rw [h'.len]; exact hj)
    have e := (h.tx j z hz).symm.trans (h'.tx j z' hz')
    have a1 := chr36_lt (h.m36 z (List.mem_of_getElem? hz))
    have a2 := chr36_lt (h'.m36 z' (List.mem_of_getElem? hz'))
    rw [hz, hz', chr36_inj (nI_inj (by omega) (by omega) e)]
  · rw [List.getElem?_eq_none (by rw [h.len]; omega), List.getElem?_eq_none (by rw [h'.len]; omega)]
def chB (M : List Nat) (j : Nat) : Int32 := nI (chr36 (M.getD j 0))
theorem TXT.b {f : Nat → Int32} {n : Nat} {M : List Nat} (h : TXT f n M) {j : Nat} (hj : j < n) : f j = chB M j := by
  obtain ⟨z, hz⟩ := get_lt (ks := M) (j := j) (by rw [h.len]; exact hj)
  unfold chB
  rw [h.tx j z hz, List.getD_eq_getElem?_getD, hz]; rfl
def okM (k : Nat) (M : List Nat) : Prop := (k < 15 ∧ mt (chB M 0) (chB M 1) (chB M 2) k) ∧ (M.length = 17 + fLen k M) ∧ (fOk k M) ∧ (k = 1 → M.getD 18 0 = 28 ∨ (num (sl M 19 15) = 0 ∧ num (sl M 34 2) = 0)) ∧ (isD (sl M (M.length - 2) 2) = true) ∧ (chk M = 1)
theorem okM.kd {k : Nat} {M : List Nat} (h : okM k M) : k < 15 ∧ mt (chB M 0) (chB M 1) (chB M 2) k := h.1
theorem okM.len {k : Nat} {M : List Nat} (h : okM k M) : M.length = 17 + fLen k M := h.2.1
theorem okM.ok {k : Nat} {M : List Nat} (h : okM k M) : fOk k M := h.2.2.1
theorem okM.ast {k : Nat} {M : List Nat} (h : okM k M) : k = 1 → M.getD 18 0 = 28 ∨ (num (sl M 19 15) = 0 ∧ num (sl M 34 2) = 0) := h.2.2.2.1
theorem okM.dig {k : Nat} {M : List Nat} (h : okM k M) : isD (sl M (M.length - 2) 2) = true := h.2.2.2.2.1
theorem okM.chk {k : Nat} {M : List Nat} (h : okM k M) : chk M = 1 := h.2.2.2.2.2
def MSG (S : hS) (k : Nat) (M : List Nat) : Prop := (S.2.1 801 2 = nI M.length) ∧ (S.2.1 804 2 = nI k) ∧ (S.2.1 805 2 = nI (b36 (sl M 3 4))) ∧ (S.2.2.1 806 2 = lI (b36 (sl M 7 8) : Nat)) ∧ (∃ a, RQ S M a (cds k M) (ams k M)) ∧ (oth k M S)
theorem MSG.ln {S : hS} {k : Nat} {M : List Nat} (h : MSG S k M) : S.2.1 801 2 = nI M.length := h.1
theorem MSG.kd {S : hS} {k : Nat} {M : List Nat} (h : MSG S k M) : S.2.1 804 2 = nI k := h.2.1
theorem MSG.sc {S : hS} {k : Nat} {M : List Nat} (h : MSG S k M) : S.2.1 805 2 = nI (b36 (sl M 3 4)) := h.2.2.1
theorem MSG.rf {S : hS} {k : Nat} {M : List Nat} (h : MSG S k M) : S.2.2.1 806 2 = lI (b36 (sl M 7 8) : Nat) := h.2.2.2.1
theorem MSG.rq {S : hS} {k : Nat} {M : List Nat} (h : MSG S k M) : ∃ a, RQ S M a (cds k M) (ams k M) := h.2.2.2.2.1
theorem MSG.oth {S : hS} {k : Nat} {M : List Nat} (h : MSG S k M) : oth k M S := h.2.2.2.2.2
theorem flds_all {k : Nat} (hk : k < 15) : ∃ id, h_Me_fieldsOf (nI k) = some id ∧ (∃ m, am_sl id = some (nI m)) ∧ ∀ {S : hS} {M : List Nat}, RQ S M 15 [] [] → S.2.1 803 2 = 1 → ∃ S', h_Me_readFields id S = some S' ∧ fX S S' ∧ (((15 + fLen k M + 2 ≤ M.length ∧ fOk k M) ∧ RQ S' M (15 + fLen k M) (cds k M) (ams k M) ∧ oth k M S' ∧ S'.2.1 803 2 = 1) ∨ (¬ (15 + fLen k M + 2 ≤ M.length ∧ fOk k M) ∧ S'.2.1 803 2 = 0)) := by
  rcases (show k = 0 ∨ k = 1 ∨ k = 2 ∨ k = 3 ∨ k = 4 ∨ k = 5 ∨ k = 6 ∨ k = 7 ∨ k = 8 ∨ k = 9 ∨ k = 10 ∨ k = 11 ∨ k = 12 ∨ k = 13 ∨ k = 14 by omega) with rfl | rfl | rfl | rfl | rfl | rfl | rfl | rfl | rfl | rfl | rfl | rfl | rfl | rfl | rfl
  · exact ⟨7, by decide, ⟨_, sl_7⟩, flds_0⟩
  · exact ⟨8, by decide, ⟨_, sl_8⟩, flds_1⟩
  · exact ⟨9, by decide, ⟨_, sl_9⟩, flds_2⟩
  · exact ⟨10, by decide, ⟨_, sl_10⟩, flds_3⟩
  · exact ⟨10, by decide, ⟨_, sl_10⟩, flds_4⟩
  · exact ⟨11, by decide, ⟨_, sl_11⟩, flds_5⟩
  · exact ⟨12, by decide, ⟨_, sl_12⟩, flds_6⟩
  · exact ⟨13, by decide, ⟨_, sl_13⟩, flds_7⟩
  · exact ⟨14, by decide, ⟨_, sl_14⟩, flds_8⟩
  · exact ⟨15, by decide, ⟨_, sl_15⟩, flds_9⟩
  · exact ⟨16, by decide, ⟨_, sl_16⟩, flds_10⟩
  · exact ⟨17, by decide, ⟨_, sl_17⟩, flds_11⟩
  · exact ⟨17, by decide, ⟨_, sl_17⟩, flds_12⟩
  · exact ⟨18, by decide, ⟨_, sl_18⟩, flds_13⟩
  · exact ⟨18, by decide, ⟨_, sl_18⟩, flds_14⟩
theorem flds_x {id m : Nat} (hm : am_sl id = some (nI m)) {S : hS} (h3 : S.2.1 803 2 = 0) : h_Me_readFields id S = some S := by
  unfold h_Me_readFields
  have : hl_Me_readFields_2 (99999 + 1) id (nI 0) S = some S := ff_x (Q := fun o => o = some S) hm h3 rfl
  show ((hl_Me_readFields_2 (99999 + 1) id (nI 0) S).bind _) = _
  rw [this]; rfl
/-- the last look of the reading -/
def rdEnd (q : hS) : Option (Int32 × hS) := (if ¬ ((q.2.1 804 2) : Int32) = 1 then (if ((q.2.1 804 2) : Int32) < 0 then (some (0, q)) else (if ((q.2.1 803 2) : Int32) = 0 then (some (0, q)) else (if ¬ ((q.2.1 802 2) : Int32) = ((q.2.1 801 2) - 2) then (some (0, q)) else (some (1, q))))) else (if ¬ ((q.2.1 815 2) : Int32) = 0 then (if ((q.2.1 804 2) : Int32) < 0 then (some (0, q)) else (if ((q.2.1 803 2) : Int32) = 0 then (some (0, q)) else (if ¬ ((q.2.1 802 2) : Int32) = ((q.2.1 801 2) - 2) then (some (0, q)) else (some (1, q))))) else ((am_ix 0 4).bind fun j108 => (if ¬ ((lg_cmp (q.2.2.2.2.2.1 6 j108) 0) : Int32) = 0 then (some (0, q)) else (if ((q.2.1 816 2) : Int32) = 0 then (if ((q.2.1 804 2) : Int32) < 0 then (some (0, q)) else (if ((q.2.1 803 2) : Int32) = 0 then (some (0, q)) else (if ¬ ((q.2.1 802 2) : Int32) = ((q.2.1 801 2) - 2) then (some (0, q)) else (some (1, q))))) else (some (0, q)))))))
theorem rdEnd_bad {q : hS} (h : q.2.1 803 2 = 0 ∨ q.2.1 804 2 = -1) : rdEnd q = some (0, q) := by
  have x0 : am_ix 0 4 = some 0 := by decide
  have A : (if ((q.2.1 804 2) : Int32) < 0 then (some ((0 : Int32), q)) else (if ((q.2.1 803 2) : Int32) = 0 then (some (0, q)) else (if ¬ ((q.2.1 802 2) : Int32) = ((q.2.1 801 2) - 2) then (some (0, q)) else (some (1, q))))) = some (0, q) := by
    rcases h with h | h
    · by_cases c : q.2.1 804 2 < 0
      · rw [if_pos c]
      · rw [if_neg c, if_pos h]
    · rw [if_pos (by rw [h]; decide)]
  unfold rdEnd
  rw [A, x0, Option.bind_some]
  by_cases c1 : ¬ q.2.1 804 2 = 1
  · rw [if_pos c1]
  · rw [if_neg c1]
    by_cases c2 : ¬ q.2.1 815 2 = 0
    · rw [if_pos c2]
    · rw [if_neg c2]
      by_cases c3 : ¬ lg_cmp (q.2.2.2.2.2.1 6 0) 0 = 0
      · rw [if_pos c3]
      · rw [if_neg c3]
        by_cases c4 : q.2.1 816 2 = 0
        · rw [if_pos c4]
        · rw [if_neg c4]
theorem rdEnd_ok {q : hS} {k a n : Nat} (h3 : q.2.1 803 2 = 1) (h4 : q.2.1 804 2 = nI k) (hk : k < 15) (ha : q.2.1 802 2 = nI a) (hn : q.2.1 801 2 = nI n) (hn2 : 2 ≤ n ∧ n ≤ 400 ∧ a ≤ 400) (c : k = 1 → Bool) (hc : ∀ h : k = 1, ((¬ q.2.1 815 2 = 0) ∨ (lg_cmp (q.2.2.2.2.2.1 6 0) 0 = 0 ∧ q.2.1 816 2 = 0)) ↔ c h = true) : (rdEnd q = some (1, q) ∧ a = n - 2 ∧ ∀ h : k = 1, c h = true) ∨ (rdEnd q = some (0, q) ∧ ¬ (a = n - 2 ∧ ∀ h : k = 1, c h = true)) := by
  have x0 : am_ix 0 4 = some 0 := by decide
  have e2 : nI n - 2 = nI (n - 2) := nI_sub' (a := n) (b := 2) (by omega)
  have A : (if ((q.2.1 804 2) : Int32) < 0 then (some ((0 : Int32), q)) else (if ((q.2.1 803 2) : Int32) = 0 then (some (0, q)) else (if ¬ ((q.2.1 802 2) : Int32) = ((q.2.1 801 2) - 2) then (some (0, q)) else (some (1, q))))) = if a = n - 2 then some (1, q) else some (0, q) := by
    rw [h4, if_neg (nI_neg1 (by omega)), h3, if_neg (by decide), ha, hn, e2]
    by_cases e : a = n - 2
    · rw [if_pos e, if_neg (fun w => w (by rw [e]))]
    · rw [if_neg e, if_pos (fun w => e (nI_inj (by omega) (by omega) w))]
  unfold rdEnd
  rw [A, x0, Option.bind_some]
  by_cases c1 : k = 1
  · rw [if_neg (fun w => w (by rw [h4, c1]; rfl))]
    by_cases cc : c c1 = true
    · have hh := (hc c1).mpr cc
      have B : (if ¬ q.2.1 815 2 = 0 then (if a = n - 2 then some ((1 : Int32), q) else some (0, q)) else (if ¬ lg_cmp (q.2.2.2.2.2.1 6 0) 0 = 0 then some (0, q) else (if q.2.1 816 2 = 0 then (if a = n - 2 then some (1, q) else some (0, q)) else some (0, q)))) = if a = n - 2 then some (1, q) else some (0, q) := by
        by_cases c2 : ¬ q.2.1 815 2 = 0
        · rw [if_pos c2]
        · rw [if_neg c2]
          have h5 := hh.resolve_left c2
          rw [if_neg (fun w => w h5.1), if_pos h5.2]
      rw [B]
      by_cases e : a = n - 2
      · rw [if_pos e]; exact Or.inl ⟨rfl, e, fun _ => cc⟩
      · rw [if_neg e]; exact Or.inr ⟨rfl, fun w => e w.1⟩
    · refine Or.inr ⟨?_, fun w => cc (w.2 c1)⟩
      have hh : ¬ ((¬ q.2.1 815 2 = 0) ∨ (lg_cmp (q.2.2.2.2.2.1 6 0) 0 = 0 ∧ q.2.1 816 2 = 0)) := fun w => cc ((hc c1).mp w)
      rw [if_neg (fun w => hh (Or.inl w))]
      by_cases c3 : ¬ lg_cmp (q.2.2.2.2.2.1 6 0) 0 = 0
      · rw [if_pos c3]
      · rw [if_neg c3, if_neg (fun w => hh (Or.inr ⟨Decidable.of_not_not c3, w⟩))]
  · rw [if_pos (show ¬ q.2.1 804 2 = 1 from fun w => c1 (nI_inj (by omega) (by omega) (show nI k = nI 1 from h4.symm.trans w)))]
    by_cases e : a = n - 2
    · rw [if_pos e]; exact Or.inl ⟨rfl, e, fun w => absurd w c1⟩
    · rw [if_neg e]; exact Or.inr ⟨rfl, fun w => e w.1⟩
abbrev mI' : List Nat := [801, 802, 803, 804, 805, 810, 812, 814, 815, 816, 817]
abbrev gX (S S' : hS) : Prop := hX mI' [806, 818] [] [3, 4] [6] [] S S'
theorem fX.g {S S' : hS} (w : fX S S') : gX S S' := w.mono (by decide) (by simp) (by simp) (by simp) (by simp) (by simp)
theorem rX.g {S S' : hS} (w : rX S S') : gX S S' := w.mono (by decide) (by simp) (by simp) (by simp) (by simp) (by simp)
theorem pX.g {S S' : hS} (w : pX S S') : gX S S' := w.mono (by decide) (by simp) (by simp) (by simp) (by simp) (by simp)
set_option maxHeartbeats 2000000 in
/-- the class reads: a message or none -/
theorem h_read {S : hS} {n : Nat} (hn : 1 ≤ n ∧ n ≤ 400) : ∃ r S', h_Me_read (nI n) S = some (r, S') ∧ gX S S' ∧ ((r = 0 ∧ ∀ M k, TXT (S.2.2.2.2.1 1) n M → ¬ okM k M) ∨ (r = 1 ∧ ∃ M k, TXT (S.2.2.2.2.1 1) n M ∧ okM k M ∧ MSG S' k M)) := by
  have emin : (if (400 : Int32) < nI n then 400 else nI n) = nI n := if_neg (fun c => by have := (nI_lt' (a := 400) (b := n) (by omega) (by omega)).mp c; omega)
  obtain ⟨S0, hS0⟩ : ∃ S0, S0 = hpI (hpI (hpI (hpI S 801 2 (nI n)) 803 2 1) 810 2 0) 812 2 0 := ⟨_, rfl⟩
  have w0 : gX S S0 := by rw [hS0]; exact (((hX.rf.pI (by decide)).pI (by decide)).pI (by decide)).pI (by decide)
  have b0 : S0.2.2.2.2.1 1 = S.2.2.2.2.1 1 := w0.a 1 (by decide)
  have ln0 : S0.2.1 801 2 = nI n := by rw [hS0]; simp [hpI, up2]
  have t0 : S0.2.1 803 2 = 1 := by rw [hS0]; simp [hpI, up2]
  have c0 : S0.2.1 810 2 = nI 0 := by rw [hS0]; simp [hpI, up2]; rfl
  have a0 : S0.2.1 812 2 = nI 0 := by rw [hS0]; simp [hpI, up2]; rfl
  unfold h_Me_read
  rw [emin, ← hS0]
  by_cases h5 : n < 5
  · rw [if_pos (show nI n < 5 from (nI_lt' (a := n) (b := 5) (by omega) (by omega)).mpr h5)]
    exact ⟨0, S0, rfl, w0, Or.inl ⟨rfl, fun M k hM ho => by have := ho.len; have := hM.len; omega⟩⟩
  rw [if_neg (show ¬ nI n < 5 from fun c => h5 ((nI_lt' (a := n) (b := 5) (by omega) (by omega)).mp c))]
  have hlet := h_let_loop ln0 hn.2 _ 100000 0 rfl (by omega) (by omega)
  unfold h_Me_hasLettersAndDigitsAlone
  rcases hlet with ⟨hall, el⟩ | ⟨hnot, el⟩
  case inr =>
    have el' : hl_Me_hasLettersAndDigitsAlone_2 100000 0 S0 = some 0 := el
    rw [el', Option.bind_some, if_pos rfl]
    refine ⟨0, S0, rfl, w0, Or.inl ⟨rfl, fun M k hM ho => hnot (fun i _ hi => ?_)⟩⟩
    obtain ⟨z, hz⟩ := get_lt (ks := M) (j := i) (by rw [hM.len]; exact hi)
    rw [b0]
    exact ⟨z, hM.m36 z (List.mem_of_getElem? hz), hM.tx i z hz⟩
  have el' : hl_Me_hasLettersAndDigitsAlone_2 100000 0 S0 = some 1 := el
  rw [el', Option.bind_some, if_neg (by decide)]
  obtain ⟨M, m1, m2, m3⟩ := txt_ex (f := S0.2.2.2.2.1 1) (n := n) (fun j hj => hall j (by omega) hj)
  have hT : TXT (S.2.2.2.2.1 1) n M := ⟨m1, m2, by rw [← b0]; exact m3⟩
  have only : ∀ {P : Prop}, (∀ k, okM k M → P) → ∀ M' k, TXT (S.2.2.2.2.1 1) n M' → okM k M' → P := fun {P} h M' k hM' ho => by
    rw [hM'.un hT] at ho
    exact h k ho
  have nope : (∀ k, ¬ okM k M) → ∀ M' k, TXT (S.2.2.2.2.1 1) n M' → ¬ okM k M' := fun h M' k hM' ho => by
    rw [hM'.un hT] at ho
    exact h k ho
  -- check digits
  have hch := h_chk_loop (S := S0) (M := M) (by rw [m1]; exact ln0) (by omega) m2 m3 _ 100000 0 rfl (by omega) (by omega)
  have hch' : hl_Me_hasRightCheckDigits_4 100000 0 0 S0 = some (nI (chk M)) := hch
  have hcl := chk_lt M
  obtain ⟨z1, hz1⟩ := get_lt (ks := M) (j := n - 1) (by omega)
  obtain ⟨z2, hz2⟩ := get_lt (ks := M) (j := n - 2) (by omega)
  have z1_36 := m2 z1 (List.mem_of_getElem? hz1)
  have z2_36 := m2 z2 (List.mem_of_getElem? hz2)
  have hsl2 : sl M (M.length - 2) 2 = [z2, z1] := by
    have a1 := sl_succ (M := M) (a := M.length - 2) (i := 0) (z := z2) (by rw [m1, Nat.add_zero]; exact hz2)
    have a2 := sl_succ (M := M) (a := M.length - 2) (i := 1) (z := z1) (by rw [m1, show n - 2 + 1 = n - 1 by omega]; exact hz1)
    rw [sl_0] at a1
    rw [a2, a1]; rfl
  have hrc : h_Me_hasRightCheckDigits S0 = some (b2i (decide (chk M = 1) && (decide (z1 < 10) && decide (z2 < 10)))) := by
    unfold h_Me_hasRightCheckDigits
    rw [hch', Option.bind_some]
    by_cases hc1 : chk M = 1
    · rw [if_neg (fun w => w (by rw [hc1]; rfl)), ln0, show nI n - 1 = nI (n - 1) from nI_sub' (a := n) (b := 1) (by omega), ix_N (by omega) (by omega), Option.bind_some, m3 _ z1 hz1, me_dig z1_36, Option.bind_some, decide_eq_true hc1, Bool.true_and]
      by_cases d1 : z1 < 10
      · rw [decide_eq_true d1, if_neg (by decide), show nI n - 2 = nI (n - 2) from nI_sub' (a := n) (b := 2) (by omega), ix_N (by omega) (by omega), Option.bind_some, m3 _ z2 hz2, me_dig z2_36, Option.bind_some, Bool.true_and]
        by_cases d2 : z2 < 10
        · rw [decide_eq_true d2, if_neg (by decide)]; rfl
        · rw [decide_eq_false d2, if_pos (by decide)]; rfl
      · rw [decide_eq_false d1, if_pos (by decide)]; rfl
    · rw [if_pos (show ¬ nI (chk M) = 1 from fun w => hc1 (nI_inj (by omega) (by omega) (show nI (chk M) = nI 1 from w))), decide_eq_false hc1]; rfl
  rw [hrc, Option.bind_some]
  by_cases hgood : (decide (chk M = 1) && (decide (z1 < 10) && decide (z2 < 10))) = true
  case neg =>
    have hgf : (decide (chk M = 1) && (decide (z1 < 10) && decide (z2 < 10))) = false := by simpa using hgood
    rw [hgf, if_neg (by decide)]
    refine ⟨0, S0, rfl, w0, Or.inl ⟨rfl, nope (fun k ho => hgood ?_)⟩⟩
    have hd := ho.dig
    rw [hsl2] at hd
    unfold isD at hd
    simp at hd
    simp [ho.chk, hd]
  rw [hgood, if_pos (by decide)]
  have hck : chk M = 1 ∧ z1 < 10 ∧ z2 < 10 := by simpa using hgood
  have hdig : isD (sl M (M.length - 2) 2) = true := by
    rw [hsl2]
    unfold isD
    simp [hck]
  -- the kind
  obtain ⟨S1, hS1⟩ : ∃ S1, S1 = hpI S0 802 2 3 := ⟨_, rfl⟩
  obtain ⟨kr, k1, k2⟩ := h_kind_loop (S := S1) _ 100000 0 rfl (by omega) (by omega) (fun j hj => by omega)
  have k1' : hl_Me_readKind_7 100000 0 (hpI S0 802 2 3) = some (oI kr, S1) := by rw [← hS1]; exact k1
  unfold h_Me_readKind
  rw [k1', Option.bind_some]
  have b1 : S1.2.2.2.2.1 1 = S.2.2.2.2.1 1 := by rw [hS1]; exact b0
  rw [b1, hT.b (by omega), hT.b (by omega), hT.b (by omega)] at k2
  obtain ⟨S2, hS2⟩ : ∃ S2, S2 = hpI S1 804 2 (oI kr) := ⟨_, rfl⟩
  have w2 : gX S S2 := by rw [hS2, hS1]; exact (w0.pI (by decide)).pI (by decide)
  have i2 : ∀ k, k ≠ 804 → k ≠ 802 → S2.2.1 k 2 = S0.2.1 k 2 := fun k x y => by rw [hS2, hS1]; simp [hpI, up2, x, y]
  have k802 : S2.2.1 802 2 = nI 3 := by rw [hS2, hS1]; simp [hpI, up2]; rfl
  have k804 : S2.2.1 804 2 = oI kr := by rw [hS2]; simp [hpI, up2]
  have rd2 : RD S2 M 3 := ⟨fun j z hj => by rw [w2.ea _ (by decide)]; exact hT.tx j z hj, m2, by omega, by rw [i2 801 (by decide) (by decide), ln0, m1], k802, by omega⟩
  show ∃ r S', ((h_Me_readCode 4 (hpI S1 804 2 (oI kr))).bind fun q51 => ((h_Me_readCode 8 (hpI q51.2 805 2 (Int64.toInt32 q51.1))).bind fun q66 => ((h_Me_fieldsOf (q66.2.2.1 804 2)).bind fun q81 => ((h_Me_readFields q81 (hpL q66.2 806 2 q66.1)).bind rdEnd)))) = some (r, S') ∧ _
  rw [← hS2]
  -- the sender and the reference, whatever becomes of them
  have step : ∃ v1 T1 v2 T2 a, h_Me_readCode 4 S2 = some (v1, T1) ∧ h_Me_readCode 8 (hpI T1 805 2 (Int64.toInt32 v1)) = some (v2, T2) ∧ RD (hpL T2 806 2 v2) M a ∧ gX S2 (hpL T2 806 2 v2) ∧ (∀ k, k ≠ 802 → k ≠ 803 → k ≠ 805 → (hpL T2 806 2 v2).2.1 k 2 = S2.2.1 k 2) ∧ T2.2.1 804 2 = oI kr ∧ ((17 ≤ n ∧ a = 15 ∧ (hpL T2 806 2 v2).2.1 803 2 = 1 ∧ (hpL T2 806 2 v2).2.1 805 2 = nI (b36 (sl M 3 4)) ∧ (hpL T2 806 2 v2).2.2.1 806 2 = lI (b36 (sl M 7 8) : Nat)) ∨ (¬ 17 ≤ n ∧ (hpL T2 806 2 v2).2.1 803 2 = 0)) := by
    have fin : ∀ (v1 : Int64) (T1 : hS) (b : Nat), h_Me_readCode (nI 4) S2 = some (v1, T1) → RD T1 M b → pX S2 T1 → ∃ v2 T2 a, h_Me_readCode 8 (hpI T1 805 2 (Int64.toInt32 v1)) = some (v2, T2) ∧ RD (hpL T2 806 2 v2) M a ∧ gX S2 (hpL T2 806 2 v2) ∧ (∀ k, k ≠ 802 → k ≠ 803 → k ≠ 805 → (hpL T2 806 2 v2).2.1 k 2 = S2.2.1 k 2) ∧ T2.2.1 804 2 = oI kr ∧ (hpL T2 806 2 v2).2.1 805 2 = Int64.toInt32 v1 ∧ (hpL T2 806 2 v2).2.2.1 806 2 = v2 ∧ ((b + 10 ≤ n ∧ a = b + 8 ∧ (hpL T2 806 2 v2).2.1 803 2 = T1.2.1 803 2 ∧ v2 = lI (b36 (sl M b 8) : Nat)) ∨ (¬ b + 10 ≤ n ∧ (hpL T2 806 2 v2).2.1 803 2 = 0)) := by
      intro v1 T1 b e r w
      have wa : rX S2 (hpI T1 805 2 (Int64.toInt32 v1)) := (w.r).pI (by decide)
      have ra : RD (hpI T1 805 2 (Int64.toInt32 v1)) M b := r.x (hX.rf.pI (by decide)) (by rw [← r.at]; simp [hpI, up2]) r.le
      have com : ∀ (v2 : Int64) (T2 : hS) (a : Nat), h_Me_readCode 8 (hpI T1 805 2 (Int64.toInt32 v1)) = some (v2, T2) → RD T2 M a → pX (hpI T1 805 2 (Int64.toInt32 v1)) T2 → RD (hpL T2 806 2 v2) M a ∧ gX S2 (hpL T2 806 2 v2) ∧ (∀ k, k ≠ 802 → k ≠ 803 → k ≠ 805 → (hpL T2 806 2 v2).2.1 k 2 = S2.2.1 k 2) ∧ T2.2.1 804 2 = oI kr ∧ (hpL T2 806 2 v2).2.1 805 2 = Int64.toInt32 v1 ∧ (hpL T2 806 2 v2).2.2.1 806 2 = v2 := fun v2 T2 a e2 r2 w2' => by
        have hk : ∀ k, k ≠ 802 → k ≠ 803 → k ≠ 805 → T2.2.1 k 2 = S2.2.1 k 2 := fun k x1 x2 x3 => by
          rw [w2'.ei k (by simp [x1, x2])]
          have : (hpI T1 805 2 (Int64.toInt32 v1)).2.1 k 2 = T1.2.1 k 2 := by simp [hpI, up2, x3]
          rw [this, w.ei k (by simp [x1, x2])]
        refine ⟨r2.x (hX.rf.pL (by decide)) r2.at r2.le, (rX.g (wa.tr w2'.r)).pL (by decide), hk, (hk 804 (by decide) (by decide) (by decide)).trans k804, ?_, by simp [hpL, up2]⟩
        show T2.2.1 805 2 = _
        rw [w2'.ei 805 (by decide)]; simp [hpI, up2]
      have h805 : (hpI T1 805 2 (Int64.toInt32 v1)).2.1 803 2 = T1.2.1 803 2 := by simp [hpI, up2]
      rcases h_rc ra 8 (by omega) with ⟨q, T2, e2, d2, u2, y2⟩ | ⟨q, T2, a, e2, d2, u2, y2⟩
      · obtain ⟨c1, c2, c3, c4, c5, c6⟩ := com _ T2 _ e2 d2 y2
        exact ⟨_, T2, b + 8, e2, c1, c2, c3, c4, c5, c6, Or.inl ⟨by omega, rfl, u2.trans h805, rfl⟩⟩
      · obtain ⟨c1, c2, c3, c4, c5, c6⟩ := com _ T2 _ e2 d2 y2
        exact ⟨_, T2, a, e2, c1, c2, c3, c4, c5, c6, Or.inr ⟨by omega, u2⟩⟩
    have t2 : S2.2.1 803 2 = 1 := (i2 803 (by decide) (by decide)).trans t0
    rcases h_rc rd2 4 (by omega) with ⟨q, T1, e1, d1, u1, y1⟩ | ⟨q, T1, b, e1, d1, u1, y1⟩
    · obtain ⟨v2, T2, a, f1, f2, f3, f4, f5, f6, f7, f8⟩ := fin _ T1 _ e1 d1 y1
      refine ⟨_, T1, v2, T2, a, e1, f1, f2, f3, f4, f5, ?_⟩
      rcases f8 with ⟨g1, g2, g3, g4⟩ | ⟨g1, g2⟩
      · exact Or.inl ⟨by omega, by omega, g3.trans (u1.trans t2), by rw [f6, lI_to32], by rw [f7, g4]⟩
      · exact Or.inr ⟨by omega, g2⟩
    · obtain ⟨v2, T2, a, f1, f2, f3, f4, f5, f6, f7, f8⟩ := fin _ T1 _ e1 d1 y1
      refine ⟨_, T1, v2, T2, a, e1, f1, f2, f3, f4, f5, Or.inr ⟨by omega, ?_⟩⟩
      rcases f8 with ⟨g1, g2, g3, g4⟩ | ⟨g1, g2⟩
      · exact g3.trans u1
      · exact g2
  obtain ⟨v1, T1, v2, T2, a, f1, f2, f3, f4, f5, f6, f7⟩ := step
  obtain ⟨U, hU⟩ : ∃ U, U = hpL T2 806 2 v2 := ⟨_, rfl⟩
  rw [← hU] at f3 f4 f5 f7
  have hcur : ∀ {X : Option (Int32 × hS)}, ((h_Me_readCode 4 S2).bind fun q51 => ((h_Me_readCode 8 (hpI q51.2 805 2 (Int64.toInt32 q51.1))).bind fun q66 => ((h_Me_fieldsOf (q66.2.2.1 804 2)).bind fun q81 => ((h_Me_readFields q81 (hpL q66.2 806 2 q66.1)).bind rdEnd)))) = ((h_Me_fieldsOf (oI kr)).bind fun q81 => ((h_Me_readFields q81 U).bind rdEnd)) := by
    intro X
    rw [f1, Option.bind_some, f2, Option.bind_some]
    show ((h_Me_fieldsOf (T2.2.1 804 2)).bind fun q81 => ((h_Me_readFields q81 (hpL T2 806 2 v2)).bind rdEnd)) = _
    rw [f6, ← hU]
  rw [hcur (X := none)]
  have wU : gX S U := w2.tr f4
  have hk804 : U.2.1 804 2 = oI kr := (f5 804 (by decide) (by decide) (by decide)).trans k804
  have lnU : U.2.1 801 2 = nI n := ((f5 801 (by decide) (by decide) (by decide)).trans (i2 801 (by decide) (by decide))).trans ln0
  have e810 : U.2.1 810 2 = nI 0 := ((f5 810 (by decide) (by decide) (by decide)).trans (i2 810 (by decide) (by decide))).trans c0
  have e812 : U.2.1 812 2 = nI 0 := ((f5 812 (by decide) (by decide) (by decide)).trans (i2 812 (by decide) (by decide))).trans a0
  rcases k2 with ⟨kn, knone⟩ | ⟨k, kl, km, ks⟩
  · -- no such kind
    subst kn
    rw [show h_Me_fieldsOf (oI none) = some 18 from by decide, Option.bind_some]
    have e18 : h_Me_readFields 18 U = some U := by
      unfold h_Me_readFields
      have : hl_Me_readFields_2 (99999 + 1) 18 (nI 0) U = some U := ff_end (Q := fun o => o = some U) sl_18 (by omega) (by decide) (by omega) rfl
      show ((hl_Me_readFields_2 (99999 + 1) 18 (nI 0) U).bind _) = _
      rw [this]; rfl
    rw [e18, Option.bind_some, rdEnd_bad (Or.inr hk804)]
    exact ⟨0, U, rfl, wU, Or.inl ⟨rfl, nope (fun k ho => knone k ho.kd.1 ho.kd.2)⟩⟩
  · subst ks
    obtain ⟨id, i1, ⟨mm, i2'⟩, i3⟩ := flds_all kl
    have kun : ∀ k', okM k' M → k' = k := fun k' ho => mt_un ho.kd.1 kl ho.kd.2 km
    rw [show h_Me_fieldsOf (oI (some k)) = some id from i1, Option.bind_some]
    rcases f7 with ⟨g1, g2, g3, g4, g5⟩ | ⟨g1, g2⟩
    · subst g2
      have rq : RQ U M 15 [] [] := ⟨f3, e810, fun j c hj => (by cases hj), e812, fun j c hj => (by cases hj)⟩
      obtain ⟨V, j1, j2, j3⟩ := i3 rq g3
      rw [j1, Option.bind_some]
      have wV : gX S V := wU.tr (fX.g j2)
      rcases j3 with ⟨q1, q2, q3, q4⟩ | ⟨q1, q2⟩
      · -- all fields are there
        have v804 : V.2.1 804 2 = nI k := (j2.ei _ (by decide) _).trans hk804
        have v805 : V.2.1 805 2 = nI (b36 (sl M 3 4)) := (j2.ei _ (by decide) _).trans g4
        have v806 : V.2.2.1 806 2 = lI (b36 (sl M 7 8) : Nat) := (j2.el _ (by decide) _).trans g5
        have v801 : V.2.1 801 2 = nI n := (j2.ei _ (by decide) _).trans lnU
        have hfl : fLen k M ≤ 400 := by have := q1.1; omega
        have hend := rdEnd_ok (q := V) (c := fun _ => decide (M.getD 18 0 = 28 ∨ (num (sl M 19 15) = 0 ∧ num (sl M 34 2) = 0))) q4 v804 kl q2.rd.at v801 ⟨by omega, hn.2, by have := q2.rd.le; omega⟩ (fun hk1 => by
          subst hk1
          have o : V.2.1 814 2 = nI (b36 (sl M 15 3)) ∧ V.2.1 815 2 = b2i (decide (M.getD 18 0 = 28)) ∧ V.2.1 816 2 = nI (num (sl M 34 2)) := q3
          have oa : V.2.2.2.2.2.1 6 0 = lI (num (sl M 19 15) : Nat) := q2.ar 0 _ rfl
          have f1 : isD (sl M 19 15) = true := q1.2.2.1
          have f2 : isD (sl M 34 2) = true := q1.2.2.2
          have l1 : 15 + 21 + 2 ≤ M.length := q1.1
          have n1 := num_lt 15 (sl M 19 15) (sl_len (by omega)) f1
          have n2 := num_lt 2 (sl M 34 2) (sl_len (by omega)) f2
          rw [show (10 : Nat) ^ 15 = 1000000000000000 by decide] at n1
          rw [show (10 : Nat) ^ 2 = 100 by decide] at n2
          rw [o.2.1, o.2.2, oa, decide_eq_true_iff, cmp0_eq (by omega)]
          have e16 : nI (num (sl M 34 2)) = 0 ↔ num (sl M 34 2) = 0 := ⟨fun w => nI_inj (by omega) (by omega) (show nI (num (sl M 34 2)) = nI 0 from w), fun w => by rw [w]; rfl⟩
          rw [e16, b2i_ne0, decide_eq_true_iff]
          constructor
          · rintro (w | ⟨w1, w2⟩)
            · exact Or.inl w
            · exact Or.inr ⟨by omega, w2⟩
          · rintro (w | ⟨w1, w2⟩)
            · exact Or.inl w
            · exact Or.inr ⟨by omega, w2⟩)
        rcases hend with ⟨e1, e2, e3⟩ | ⟨e1, e2⟩
        · rw [e1]
          refine ⟨1, V, rfl, wV, Or.inr ⟨rfl, M, k, hT, ⟨⟨kl, km⟩, by omega, q1.2, fun hk1 => by simpa using e3 hk1, hdig, hck.1⟩, ⟨by rw [v801, m1], v804, v805, v806, ⟨_, q2⟩, q3⟩⟩⟩
        · rw [e1]
          refine ⟨0, V, rfl, wV, Or.inl ⟨rfl, nope (fun k' ho => ?_)⟩⟩
          have e := kun k' ho
          subst e
          exact e2 ⟨by have := ho.len; omega, fun hk1 => by simpa using ho.ast hk1⟩
      · rw [rdEnd_bad (Or.inl q2)]
        exact ⟨0, V, rfl, wV, Or.inl ⟨rfl, nope (fun k' ho => by
          have e := kun k' ho
          subst e
          exact q1 ⟨by have := ho.len; omega, ho.ok⟩)⟩⟩
    · rw [flds_x i2' g2, Option.bind_some, rdEnd_bad (Or.inl g2)]
      exact ⟨0, U, rfl, wU, Or.inl ⟨rfl, nope (fun k' ho => by have := ho.len; omega)⟩⟩
