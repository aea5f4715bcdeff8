/-! The reference reads a message. -/
theorem d_dig_eq (b : Int32) : d_Mo_isDigit b = h_Me_isDigit b := rfl
theorem d_sign_iff (b : Int32) : (sg b ∧ d_Mo_isSign b = some 1) ∨ (¬ sg b ∧ d_Mo_isSign b = some 0) := by
  have hsg := sg_iff b
  have l1 : ∀ {x y : Int32}, ¬ x < y ↔ y ≤ x := fun {x y} => Int32.not_lt
  have l2 : ∀ {x y : Int32}, ¬ x ≤ y ↔ y < x := fun {x y} => Int32.not_le
  unfold d_Mo_isSign d_Mo_isDigit
  by_cases d1 : b < 48
  · rw [if_pos d1, Option.bind_some, if_neg (by decide), if_pos (Int32.lt_trans d1 (by decide))]
    refine Or.inr ⟨fun c => ?_, rfl⟩
    rcases hsg.mp c with q | q
    · exact (l1.mpr q.1) d1
    · exact (l1.mpr q.1) (Int32.lt_trans d1 (by decide))
  · rw [if_neg d1]
    by_cases d2 : 57 < b
    · rw [if_pos d2, Option.bind_some, if_neg (by decide)]
      by_cases d3 : b < 65
      · rw [if_pos d3]
        refine Or.inr ⟨fun c => ?_, rfl⟩
        rcases hsg.mp c with q | q
        · exact (l2.mpr d2) q.2
        · exact (l1.mpr q.1) d3
      · rw [if_neg d3]
        by_cases d4 : 90 < b
        · rw [if_pos d4]
          refine Or.inr ⟨fun c => ?_, rfl⟩
          rcases hsg.mp c with q | q
          · exact (l2.mpr d2) q.2
          · exact (l2.mpr d4) q.2
        · rw [if_neg d4]; exact Or.inl ⟨hsg.mpr (Or.inr ⟨l1.mp d3, l1.mp d4⟩), rfl⟩
    · rw [if_neg d2, Option.bind_some, if_pos (by decide)]
      exact Or.inl ⟨hsg.mpr (Or.inl ⟨l1.mp d1, l1.mp d2⟩), rfl⟩
theorem d_sgn_loop {s : mS} {n : Nat} (ln : s.1 3 = nI n) (hn : n ≤ 400) : ∀ (d fu j : Nat) (b : Bool), n - j = d → d < fu → j ≤ n → (b = true ∧ (∀ i, j ≤ i → i < n → sg (s.2.2.1 24 i)) ∧ l_Mo_isMessage_17 fu (b2i b) (nI j) s = some 1) ∨ (¬ (b = true ∧ ∀ i, j ≤ i → i < n → sg (s.2.2.1 24 i)) ∧ l_Mo_isMessage_17 fu (b2i b) (nI j) s = some 0) := by
  intro d
  induction d with
  | zero =>
    intro fu j b hd hf hj
    obtain ⟨fu, rfl⟩ : ∃ f, fu = f + 1 := ⟨fu - 1, by omega⟩
    unfold l_Mo_isMessage_17
    rw [ln, if_pos (nI_le0 (by omega) (by omega) (by omega))]
    cases b with
    | true => exact Or.inl ⟨rfl, fun i h1 h2 => by omega, rfl⟩
    | false => exact Or.inr ⟨fun c => (by cases c.1), rfl⟩
  | succ d ih =>
    intro fu j b hd hf hj
    obtain ⟨fu, rfl⟩ : ∃ f, fu = f + 1 := ⟨fu - 1, by omega⟩
    unfold l_Mo_isMessage_17
    rw [ln, if_neg (nI_ngt (by omega) (by omega) (by omega))]
    cases b with
    | false =>
      rw [if_pos (by decide), Option.bind_some, nI_add1]
      rcases ih fu (j + 1) false (by omega) (by omega) (by omega) with ⟨a, _⟩ | ⟨a, c⟩
      · cases a
      · exact Or.inr ⟨fun w => (by cases w.1), c⟩
    | true =>
      rw [if_neg (by decide), ix_N (by omega) (by omega), Option.bind_some]
      rcases d_sign_iff (s.2.2.1 24 j) with ⟨hs, e⟩ | ⟨hs, e⟩
      · rw [e, Option.bind_some, if_neg (by decide), Option.bind_some, nI_add1]
        rcases ih fu (j + 1) true (by omega) (by omega) (by omega) with ⟨a, a2, a3⟩ | ⟨a, c⟩
        · exact Or.inl ⟨rfl, fun i h1 h2 => by
            by_cases q : i = j
            · rw [q]; exact hs
            · exact a2 i (by omega) h2, a3⟩
        · exact Or.inr ⟨fun w => a ⟨rfl, fun i h1 h2 => w.2 i (by omega) h2⟩, c⟩
      · rw [e, Option.bind_some, if_pos (by decide), Option.bind_some, nI_add1]
        rcases ih fu (j + 1) false (by omega) (by omega) (by omega) with ⟨a, _⟩ | ⟨a, c⟩
        · cases a
        · exact Or.inr ⟨fun w => hs (w.2 j (Nat.le_refl _) (by omega)), c⟩
theorem d_kind_loop : ∀ (d fu k : Nat) (s : mS) (r : Option Nat), 15 - k = d → d < fu → k ≤ 15 → s.1 4 = oI r → ((r = none ∧ ∀ j, j < k → ¬ mt (s.2.2.1 24 0) (s.2.2.1 24 1) (s.2.2.1 24 2) j) ∨ ∃ j, j < k ∧ mt (s.2.2.1 24 0) (s.2.2.1 24 1) (s.2.2.1 24 2) j ∧ r = some j) → ∃ s' r', l_Mo_findKind_7 fu (nI k) s = some s' ∧ s'.1 4 = oI r' ∧ isKd (s.2.2.1 24 0) (s.2.2.1 24 1) (s.2.2.1 24 2) r' ∧ mX [4] [] [] [] s s' := by
  have x0 : am_ix 0 400 = some 0 := by decide
  have x1 : am_ix 1 400 = some 1 := by decide
  have x2 : am_ix 2 400 = some 2 := by decide
  intro d
  induction d with
  | zero =>
    intro fu k s r hd hf hk h4 hr
    obtain ⟨fu, rfl⟩ : ∃ f, fu = f + 1 := ⟨fu - 1, by omega⟩
    refine ⟨s, r, ?_, h4, ?_, mX.rf⟩
    · unfold l_Mo_findKind_7
      rw [if_pos (show (15 : Int32) ≤ nI k from nI_le0 (a := 15) (by omega) (by omega) (by omega))]
    · rcases hr with ⟨a, b⟩ | ⟨j, a, b, c⟩
      · exact Or.inl ⟨a, fun j hj => b j (by omega)⟩
      · exact Or.inr ⟨j, by omega, b, c⟩
  | succ d ih =>
    intro fu k s r hd hf hk h4 hr
    obtain ⟨fu, rfl⟩ : ∃ f, fu = f + 1 := ⟨fu - 1, by omega⟩
    have e0 : (3 : Int32) * nI k = nI (3 * k) := nI_mul 3 k
    have e1 : nI (3 * k) + 1 = nI (3 * k + 1) := am_nadd _ 1
    have e2 : nI (3 * k) + 2 = nI (3 * k + 2) := am_nadd _ 2
    have hst : l_Mo_findKind_7 (fu + 1) (nI k) s = ((if ¬ ((s.2.2.1 24 0) : Int32) = (am_names.getD (3 * k) 0) then (some s) else (if ¬ ((s.2.2.1 24 1) : Int32) = (am_names.getD (3 * k + 1) 0) then (some s) else (if ¬ ((s.2.2.1 24 2) : Int32) = (am_names.getD (3 * k + 2) 0) then (some s) else (some (mI s 4 (nI k)))))).bind fun (u12 : mS) => (l_Mo_findKind_7 fu (nI (k + 1)) u12)) := by
      conv => lhs; unfold l_Mo_findKind_7
      rw [if_neg (show ¬ (15 : Int32) ≤ nI k from nI_ngt (a := 15) (by omega) (by omega) (by omega)), x0, Option.bind_some, e0, ix_N (by omega) (by omega), Option.bind_some, x1, Option.bind_some, e1, ix_N (by omega) (by omega), Option.bind_some, x2, Option.bind_some, e2, ix_N (by omega) (by omega), Option.bind_some, nI_add1]
    have miss : ¬ mt (s.2.2.1 24 0) (s.2.2.1 24 1) (s.2.2.1 24 2) k → l_Mo_findKind_7 (fu + 1) (nI k) s = l_Mo_findKind_7 fu (nI (k + 1)) s → ∃ s' r', l_Mo_findKind_7 (fu + 1) (nI k) s = some s' ∧ s'.1 4 = oI r' ∧ isKd (s.2.2.1 24 0) (s.2.2.1 24 1) (s.2.2.1 24 2) r' ∧ mX [4] [] [] [] s s' := fun hm e => by
      obtain ⟨s', r', a1, a2, a3, a4⟩ := ih fu (k + 1) s r (by omega) (by omega) (by omega) h4 (by
        rcases hr with ⟨a, b⟩ | ⟨j, a, b, c⟩
        · refine Or.inl ⟨a, fun j hj => ?_⟩
          by_cases q : j = k
          · rw [q]; exact hm
          · exact b j (by omega)
        · exact Or.inr ⟨j, by omega, b, c⟩)
      exact ⟨s', r', e.trans a1, a2, a3, a4⟩
    by_cases c0 : s.2.2.1 24 0 = am_names.getD (3 * k) 0
    · rw [if_neg (fun q => q c0)] at hst
      by_cases c1 : s.2.2.1 24 1 = am_names.getD (3 * k + 1) 0
      · rw [if_neg (fun q => q c1)] at hst
        by_cases c2 : s.2.2.1 24 2 = am_names.getD (3 * k + 2) 0
        · rw [if_neg (fun q => q c2), Option.bind_some] at hst
          have w : mX [4] [] [] [] s (mI s 4 (nI k)) := mX.rf.I (by decide)
          obtain ⟨s', r', a1, a2, a3, a4⟩ := ih fu (k + 1) (mI s 4 (nI k)) (some k) (by omega) (by omega) (by omega) (by simp [mI_get]; rfl) (Or.inr ⟨k, by omega, ⟨c0, c1, c2⟩, rfl⟩)
          exact ⟨s', r', hst.trans a1, a2, a3, w.tr a4⟩
        · rw [if_pos c2, Option.bind_some] at hst
          exact miss (fun c => c2 c.2.2) hst
      · rw [if_pos c1, Option.bind_some] at hst
        exact miss (fun c => c1 c.2.1) hst
    · rw [if_pos c0, Option.bind_some] at hst
      exact miss (fun c => c0 c.1) hst
theorem d_kind (s : mS) : ∃ s' r, d_Mo_findKind s = some s' ∧ s'.1 4 = oI r ∧ isKd (s.2.2.1 24 0) (s.2.2.1 24 1) (s.2.2.1 24 2) r ∧ mX [4] [] [] [] s s' := by
  have w : mX [4] [] [] [] s (mI s 4 (-1)) := mX.rf.I (by decide)
  obtain ⟨s', r, a1, a2, a3, a4⟩ := d_kind_loop _ 100000 0 (mI s 4 (-1)) none rfl (by omega) (by omega) (by simp [mI_get]; rfl) (Or.inl ⟨rfl, fun j hj => by omega⟩)
  refine ⟨s', r, ?_, a2, a3, w.tr a4⟩
  unfold d_Mo_findKind
  have a1' : l_Mo_findKind_7 100000 0 (mI s 4 (-1)) = some s' := a1
  rw [a1']; rfl
/-! Its pieces. -/
section DPC
variable {s : mS} {M : List Nat} {n : Nat}
theorem d_dgs_loop (hT : TXT (s.2.2.1 24) n M) (hn : n ≤ 400) {a k : Nat} (hak : a + k ≤ n) : ∀ (d fu i : Nat), k - i = d → d < fu → i ≤ k → l_Mo_areDigits_5 fu (nI a) (nI k) (b2i (isD (sl M a i))) (nI (a + i)) s = some (b2i (isD (sl M a k))) := by
  intro d
  induction d with
  | zero =>
    intro fu i hd hf hi
    obtain ⟨fu, rfl⟩ : ∃ f, fu = f + 1 := ⟨fu - 1, by omega⟩
    have e : i = k := by omega
    subst e
    unfold l_Mo_areDigits_5
    rw [nI_add', if_pos (nI_le0 (by omega) (by omega) (by omega))]
  | succ d ih =>
    intro fu i hd hf hi
    obtain ⟨fu, rfl⟩ : ∃ f, fu = f + 1 := ⟨fu - 1, by omega⟩
    obtain ⟨z, hz⟩ := get_lt (ks := M) (j := a + i) (by rw [hT.len]; omega)
    have hz36 := hT.m36 z (List.mem_of_getElem? hz)
    have IH := ih fu (i + 1) (by omega) (by omega) (by omega)
    rw [sl_succ hz, isD_app] at IH
    unfold l_Mo_areDigits_5
    rw [nI_add', if_neg (nI_ngt (by omega) (by omega) (by omega)), nI_add1]
    cases hb : isD (sl M a i) with
    | false =>
      rw [if_pos (by decide), Option.bind_some]
      rw [hb, Bool.false_and] at IH
      exact IH
    | true =>
      rw [if_neg (by decide), ix_N (by omega) (by omega), Option.bind_some, hT.tx _ z hz, d_dig_eq, me_dig hz36, Option.bind_some]
      rw [hb, Bool.true_and] at IH
      by_cases h10 : z < 10
      · rw [decide_eq_true h10, if_neg (by decide), Option.bind_some]
        rw [decide_eq_true h10] at IH
        exact IH
      · rw [decide_eq_false h10, if_pos (by decide), Option.bind_some]
        rw [decide_eq_false h10] at IH
        exact IH
theorem d_dgs (hT : TXT (s.2.2.1 24) n M) (hn : n ≤ 400) (a k : Nat) (hak : a + k ≤ n) : d_Mo_areDigits (nI a) (nI k) s = some (b2i (isD (sl M a k))) := by
  have h := d_dgs_loop hT hn hak _ 100000 0 rfl (by omega) (by omega)
  rw [sl_0, Nat.add_zero] at h
  have h' : l_Mo_areDigits_5 100000 (nI a) (nI k) 1 (nI a) s = some (b2i (isD (sl M a k))) := h
  unfold d_Mo_areDigits
  rw [h', Option.bind_some, if_pos (by cases isD (sl M a k) <;> decide)]
theorem d_nmb_loop (hT : TXT (s.2.2.1 24) n M) (hn : n ≤ 400) {a k : Nat} (hak : a + k ≤ n) (hD : isD (sl M a k) = true) : ∀ (d fu i : Nat), k - i = d → d < fu → i ≤ k → l_Mo_number_5 fu (nI a) (nI k) (lI (num (sl M a i) : Nat)) (nI (a + i)) s = some (lI (num (sl M a k) : Nat)) := by
  intro d
  induction d with
  | zero =>
    intro fu i hd hf hi
    obtain ⟨fu, rfl⟩ : ∃ f, fu = f + 1 := ⟨fu - 1, by omega⟩
    have e : i = k := by omega
    subst e
    unfold l_Mo_number_5
    rw [nI_add', if_pos (nI_le0 (by omega) (by omega) (by omega))]
  | succ d ih =>
    intro fu i hd hf hi
    obtain ⟨fu, rfl⟩ : ∃ f, fu = f + 1 := ⟨fu - 1, by omega⟩
    obtain ⟨z, hz⟩ := get_lt (ks := M) (j := a + i) (by rw [hT.len]; omega)
    have hz36 := hT.m36 z (List.mem_of_getElem? hz)
    have hz10 : z < 10 := by
      have hm : z ∈ sl M a k := by
        unfold sl
        exact List.mem_of_getElem? (i := i) (by rw [List.getElem?_take, if_pos (by omega), List.getElem?_drop]; exact hz)
      have := List.all_eq_true.mp hD z hm
      simpa using this
    have IH := ih fu (i + 1) (by omega) (by omega) (by omega)
    rw [sl_succ hz, num_app] at IH
    unfold l_Mo_number_5
    have ec : chr36 z = 48 + z := by unfold chr36; rw [if_pos hz10]
    rw [nI_add', if_neg (nI_ngt (by omega) (by omega) (by omega)), ix_N (by omega) (by omega), Option.bind_some, hT.tx _ z hz, ec, nI_toL (by omega), nI_add1, show Int64.ofNat 10 = lI 10 from rfl, show Int64.ofNat 48 = lI 48 from rfl, lI_mul, lI_add, lI_sub]
    have e : 10 * ((num (sl M a i) : Nat) : Int) + ((48 + z : Nat) : Int) - 48 = ((num (sl M a i) * 10 + z : Nat) : Int) := by omega
    rw [e]
    exact IH
theorem d_nmb (hT : TXT (s.2.2.1 24) n M) (hn : n ≤ 400) (a k : Nat) (hak : a + k ≤ n) (hD : isD (sl M a k) = true) : d_Mo_number (nI a) (nI k) s = some (lI (num (sl M a k) : Nat)) := by
  have h := d_nmb_loop hT hn hak hD _ 100000 0 rfl (by omega) (by omega)
  rw [sl_0, Nat.add_zero] at h
  have h' : l_Mo_number_5 100000 (nI a) (nI k) 0 (nI a) s = some (lI (num (sl M a k) : Nat)) := h
  unfold d_Mo_number
  rw [h']; rfl
set_option maxRecDepth 8000 in
theorem sh_or {V b : Nat} (hV : V * 256 + b < 9223372036854775808) (hb : b < 256) : (lI (V : Int) <<< (Int32.toInt64 8 &&& 63)) ||| lI (b : Int) = lI ((V * 256 + b : Nat) : Int) := by
  rw [← lI_ofNat, ← lI_ofNat, ← lI_ofNat]
  apply Int64.toBitVec.inj
  rw [Int64.toBitVec_or, Int64.toBitVec_shiftLeft, Int64.toBitVec_ofNat', Int64.toBitVec_ofNat', Int64.toBitVec_ofNat']
  apply BitVec.eq_of_toNat_eq
  rw [BitVec.toNat_or, BitVec.shiftLeft_eq', BitVec.toNat_shiftLeft]
  have e8 : ((Int32.toInt64 8 &&& 63).toBitVec.smod 64).toNat = 8 := by decide
  rw [e8, BitVec.toNat_ofNat, BitVec.toNat_ofNat, BitVec.toNat_ofNat, Nat.mod_eq_of_lt (show V < 2 ^ 64 by omega), Nat.mod_eq_of_lt (show b < 2 ^ 64 by omega), Nat.mod_eq_of_lt (show V * 256 + b < 2 ^ 64 by omega), Nat.shiftLeft_eq, Nat.mod_eq_of_lt (show V * 2 ^ 8 < 2 ^ 64 by omega), ← Nat.shiftLeft_eq, ← Nat.shiftLeft_add_eq_or_of_lt (show b < 2 ^ 8 by omega), Nat.shiftLeft_eq]
theorem d_pck_loop (hT : TXT (s.2.2.1 24) n M) (hn : n ≤ 400) {a k : Nat} (hak : a + k ≤ n) (hk : k ≤ 8) : ∀ (d fu i : Nat), k - i = d → d < fu → i ≤ k → l_Mo_packed_5 fu (nI a) (nI k) (lI (b256 (sl M a i) : Nat)) (nI (a + i)) s = some (lI (b256 (sl M a k) : Nat)) := by
  intro d
  induction d with
  | zero =>
    intro fu i hd hf hi
    obtain ⟨fu, rfl⟩ : ∃ f, fu = f + 1 := ⟨fu - 1, by omega⟩
    have e : i = k := by omega
    subst e
    unfold l_Mo_packed_5
    rw [nI_add', if_pos (nI_le0 (by omega) (by omega) (by omega))]
  | succ d ih =>
    intro fu i hd hf hi
    obtain ⟨fu, rfl⟩ : ∃ f, fu = f + 1 := ⟨fu - 1, by omega⟩
    obtain ⟨z, hz⟩ := get_lt (ks := M) (j := a + i) (by rw [hT.len]; omega)
    have hz36 := hT.m36 z (List.mem_of_getElem? hz)
    have hc := chr36_lt hz36
    have IH := ih fu (i + 1) (by omega) (by omega) (by omega)
    have hb := b256_lt i (sl M a (i + 1)) (sl_len (by rw [hT.len]; omega)) (sl_36 hT.m36 _ _)
    have hp : 256 ^ i ≤ 256 ^ 7 := Nat.pow_le_pow_right (by decide) (by omega)
    rw [show (256 : Nat) ^ 7 = 72057594037927936 by decide] at hp
    rw [sl_succ hz, b256_app] at IH hb
    unfold l_Mo_packed_5
    rw [nI_add', if_neg (nI_ngt (by omega) (by omega) (by omega)), ix_N (by omega) (by omega), Option.bind_some, hT.tx _ z hz, nI_toL (by omega), nI_add1, sh_or (by omega) (by omega)]
    exact IH
theorem d_pck (hT : TXT (s.2.2.1 24) n M) (hn : n ≤ 400) (a k : Nat) (hak : a + k ≤ n) (hk : k ≤ 8) : d_Mo_packed (nI a) (nI k) s = some (lI (b256 (sl M a k) : Nat)) := by
  have h := d_pck_loop hT hn hak hk _ 100000 0 rfl (by omega) (by omega)
  rw [sl_0, Nat.add_zero] at h
  have h' : l_Mo_packed_5 100000 (nI a) (nI k) 0 (nI a) s = some (lI (b256 (sl M a k) : Nat)) := h
  unfold d_Mo_packed
  rw [h']; rfl
theorem d_mem_loop {z : Z} (hB : MB s z) (hm : z.mem.length ≤ 256) (hcod : ∀ c ∈ z.mem, c.length = 4 ∧ is36 c) {c : List Nat} (h4 : c.length = 4) (h36 : is36 c) : ∀ (d fu k : Nat), z.mem.length - k = d → d < fu → k ≤ z.mem.length → l_Mo_memberAt_10 fu (lI (b256 c : Nat)) (nI k) s = some (oI (fndA c k (z.mem.drop k))) := by
  intro d
  induction d with
  | zero =>
    intro fu k hd hf hk
    obtain ⟨fu, rfl⟩ : ∃ f, fu = f + 1 := ⟨fu - 1, by omega⟩
    unfold l_Mo_memberAt_10
    rw [hB.mem, if_pos (nI_le0 (by omega) (by omega) (by omega)), List.drop_of_length_le (by omega)]; rfl
  | succ d ih =>
    intro fu k hd hf hk
    obtain ⟨fu, rfl⟩ : ∃ f, fu = f + 1 := ⟨fu - 1, by omega⟩
    obtain ⟨e, he⟩ := get_lt (ks := z.mem) (j := k) (by omega)
    obtain ⟨e4, e36⟩ := hcod e (List.mem_of_getElem? he)
    have b1 := b256_lt 3 e e4 e36
    have b2 := b256_lt 3 c h4 h36
    rw [show (256 : Nat) ^ 3 = 16777216 by decide] at b1 b2
    unfold l_Mo_memberAt_10
    rw [hB.mem, if_neg (nI_ngt (by omega) (by omega) (by omega)), ix_N (by omega) (by omega), Option.bind_some, hB.cod k e he, drop_cons he]
    unfold fndA
    by_cases hec : e = c
    · rw [if_neg (fun q => q ((cmp_eq0 (by omega) (by omega)).mpr (by rw [hec]))), if_pos hec]; rfl
    · rw [if_pos (fun q => hec (b256_inj 4 e c e4 h4 e36 h36 (by have := (cmp_eq0 (by omega) (by omega)).mp q; omega))), if_neg hec, nI_add1]
      exact ih fu (k + 1) (by omega) (by omega) (by omega)
theorem d_mem (hT : TXT (s.2.2.1 24) n M) (hn : n ≤ 400) {z : Z} (hB : MB s z) (hm : z.mem.length ≤ 256) (hcod : ∀ c ∈ z.mem, c.length = 4 ∧ is36 c) (a : Nat) (ha : a + 4 ≤ n) : d_Mo_memberAt (nI a) s = some (oI (z.fm (sl M a 4))) := by
  unfold d_Mo_memberAt
  rw [show (4 : Int32) = nI 4 from rfl, d_pck hT hn a 4 ha (by omega), Option.bind_some]
  exact d_mem_loop hB hm hcod (sl_len (by rw [hT.len]; omega)) (sl_36 hT.m36 _ _) _ 100000 0 rfl (by omega) (by omega)
theorem d_ast_loop {z : Z} (hB : MB s z) (hm : z.ast.length ≤ 64) (hcod : ∀ x ∈ z.ast, x.cd.length = 3 ∧ is36 x.cd) {c : List Nat} (h4 : c.length = 3) (h36 : is36 c) : ∀ (d fu k : Nat), z.ast.length - k = d → d < fu → k ≤ z.ast.length → l_Mo_assetAt_10 fu (lI (b256 c : Nat)) (nI k) s = some (oI (fndA c k ((z.ast.map Ast.cd).drop k))) := by
  intro d
  induction d with
  | zero =>
    intro fu k hd hf hk
    obtain ⟨fu, rfl⟩ : ∃ f, fu = f + 1 := ⟨fu - 1, by omega⟩
    unfold l_Mo_assetAt_10
    rw [hB.asn, if_pos (nI_le0 (by omega) (by omega) (by omega)), List.drop_of_length_le (by rw [List.length_map]; omega)]; rfl
  | succ d ih =>
    intro fu k hd hf hk
    obtain ⟨fu, rfl⟩ : ∃ f, fu = f + 1 := ⟨fu - 1, by omega⟩
    obtain ⟨e, he⟩ := get_lt (ks := z.ast) (j := k) (by omega)
    obtain ⟨e4, e36⟩ := hcod e (List.mem_of_getElem? he)
    have b1 := b256_lt 2 e.cd e4 e36
    have b2 := b256_lt 2 c h4 h36
    rw [show (256 : Nat) ^ 2 = 65536 by decide] at b1 b2
    unfold l_Mo_assetAt_10
    rw [hB.asn, if_neg (nI_ngt (by omega) (by omega) (by omega)), ix_N (by omega) (by omega), Option.bind_some, (hB.asc k e he).1, drop_cons (ks := z.ast.map Ast.cd) (P := e.cd) (by rw [List.getElem?_map, he]; rfl)]
    unfold fndA
    by_cases hec : e.cd = c
    · rw [if_neg (fun q => q ((cmp_eq0 (by omega) (by omega)).mpr (by rw [hec]))), if_pos hec]; rfl
    · rw [if_pos (fun q => hec (b256_inj 3 e.cd c e4 h4 e36 h36 (by have := (cmp_eq0 (by omega) (by omega)).mp q; omega))), if_neg hec, nI_add1]
      exact ih fu (k + 1) (by omega) (by omega) (by omega)
theorem d_ast (hT : TXT (s.2.2.1 24) n M) (hn : n ≤ 400) {z : Z} (hB : MB s z) (hm : z.ast.length ≤ 64) (hcod : ∀ x ∈ z.ast, x.cd.length = 3 ∧ is36 x.cd) (a : Nat) (ha : a + 3 ≤ n) : d_Mo_assetAt (nI a) s = some (oI (z.fa (sl M a 3))) := by
  unfold d_Mo_assetAt
  rw [show (3 : Int32) = nI 3 from rfl, d_pck hT hn a 3 ha (by omega), Option.bind_some]
  exact d_ast_loop hB hm hcod (sl_len (by rw [hT.len]; omega)) (sl_36 hT.m36 _ _) _ 100000 0 rfl (by omega) (by omega)
theorem d_chk_loop (hT : TXT (s.2.2.1 24) n M) (hn : n ≤ 400) (ln : s.1 3 = nI n) : ∀ (d fu j : Nat), n - j = d → d < fu → j ≤ n → l_Mo_leavesOne_4 fu (nI (chk (M.take j))) (nI j) s = some (nI (chk M)) := by
  have hl0 := hT.len
  intro d
  induction d with
  | zero =>
    intro fu j hd hf hj
    obtain ⟨fu, rfl⟩ : ∃ f, fu = f + 1 := ⟨fu - 1, by omega⟩
    unfold l_Mo_leavesOne_4
    rw [ln, if_pos (nI_le0 (by omega) (by omega) (by omega)), List.take_of_length_le (by omega)]
  | succ d ih =>
    intro fu j hd hf hj
    obtain ⟨fu, rfl⟩ : ∃ f, fu = f + 1 := ⟨fu - 1, by omega⟩
    obtain ⟨z, hz⟩ := get_lt (ks := M) (j := j) (by omega)
    have hz36 := hT.m36 z (List.mem_of_getElem? hz)
    have hl := chk_lt (M.take j)
    have IH := ih fu (j + 1) (by omega) (by omega) (by omega)
    rw [take_snoc hz, chk_app] at IH
    unfold chkS at IH
    unfold l_Mo_leavesOne_4
    rw [ln, if_neg (nI_ngt (by omega) (by omega) (by omega)), ix_N (by omega) (by omega), Option.bind_some, hT.tx j z hz, d_dig_eq, me_dig hz36, Option.bind_some]
    by_cases h10 : z < 10
    · have ec : chr36 z = 48 + z := by unfold chr36; rw [if_pos h10]
      rw [decide_eq_true h10, if_neg (by decide), Option.bind_some, ec, show (10 : Int32) = nI 10 from rfl, nI_mul, nI_add', show (48 : Int32) = nI 48 from rfl, nI_sub' (by omega), nI_mod (by omega), nI_add1]
      rw [if_pos h10] at IH
      rw [show 10 * chk (M.take j) + (48 + z) - 48 = 10 * chk (M.take j) + z by omega]
      exact IH
    · have ec : chr36 z = 55 + z := by unfold chr36; rw [if_neg h10]
      rw [decide_eq_false h10, if_pos (by decide), Option.bind_some, ec, show (100 : Int32) = nI 100 from rfl, nI_mul, nI_add', show (65 : Int32) = nI 65 from rfl, nI_sub' (by omega), show (10 : Int32) = nI 10 from rfl, nI_add', nI_mod (by omega), nI_add1]
      rw [if_neg h10] at IH
      rw [show 100 * chk (M.take j) + (55 + z) - 65 + 10 = 100 * chk (M.take j) + z by omega]
      exact IH
theorem d_chk (hT : TXT (s.2.2.1 24) n M) (hn : n ≤ 400) (ln : s.1 3 = nI n) : d_Mo_leavesOne s = some (b2i (decide (chk M = 1))) := by
  have h := d_chk_loop hT hn ln _ 100000 0 rfl (by omega) (by omega)
  have h' : l_Mo_leavesOne_4 100000 0 0 s = some (nI (chk M)) := h
  have hl := chk_lt M
  unfold d_Mo_leavesOne
  rw [h', Option.bind_some]
  by_cases c : chk M = 1
  · rw [if_neg (fun w => w (by rw [c]; rfl)), decide_eq_true c]; rfl
  · rw [if_pos (show ¬ nI (chk M) = 1 from fun w => c (nI_inj (by omega) (by omega) (show nI (chk M) = nI 1 from w))), decide_eq_false c]; rfl
end DPC
