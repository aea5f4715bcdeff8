/-! Numbers and statements, on both sides. -/
def pad : Nat → Nat → List Nat
  | 0, _ => []
  | k + 1, n => n / 10 ^ k % 10 :: pad k n
def strp : List Nat → List Nat
  | [] => []
  | d :: r => if d = 0 ∧ r ≠ [] then strp r else d :: r
def dig (d : Nat) : Int32 := nI (48 + d)
def numB (v : Int) : List Int32 := (if v < 0 then [nI 45] else []) ++ (strp (pad 19 v.natAbs)).map dig
theorem pad_len (n : Nat) : ∀ k, (pad k n).length = k := by
  intro k
  induction k with
  | zero => rfl
  | succ k ih => show (pad k n).length + 1 = _; rw [ih]
theorem pad_ne {k n : Nat} (h : 0 < k) : pad k n ≠ [] := fun c => by
  have := pad_len n k
  rw [c] at this
  simp at this
  omega
theorem p10 {k : Nat} (h : k ≤ 18) : 10 ^ k ≤ 1000000000000000000 ∧ 0 < 10 ^ k := by
  refine ⟨?_, Nat.pow_pos (by decide)⟩
  have : 10 ^ k ≤ 10 ^ 18 := Nat.pow_le_pow_right (by decide) h
  have h3 : (10 : Nat) ^ 18 = 1000000000000000000 := by decide
  omega
theorem div10 (n k : Nat) : n / 10 ^ (k + 1) = n / 10 ^ k / 10 := by
  rw [Nat.pow_succ, Nat.div_div_eq_div_mul]
theorem strp_pad {n T : Nat} (h1 : n / 10 ^ T ≤ 9) (h2 : T = 0 ∨ 9 < n / 10 ^ (T - 1)) : ∀ k, T ≤ k → strp (pad (k + 1) n) = pad (T + 1) n := by
  intro k
  induction k with
  | zero =>
    intro hk
    have : T = 0 := by omega
    subst this
    show (if n / 10 ^ 0 % 10 = 0 ∧ ([] : List Nat) ≠ [] then _ else _) = _
    rw [if_neg (fun c => c.2 rfl)]
    rfl
  | succ k ih =>
    intro hk
    by_cases e : T = k + 1
    · subst e
      have h3 : 9 < n / 10 ^ k := by
        rcases h2 with c | c
        · omega
        · exact c
      have h4 := div10 n k
      show (if n / 10 ^ (k + 1) % 10 = 0 ∧ pad (k + 1) n ≠ [] then strp (pad (k + 1) n) else n / 10 ^ (k + 1) % 10 :: pad (k + 1) n) = _
      rw [if_neg (fun c => by omega)]
      rfl
    · have hz : n / 10 ^ (k + 1) = 0 := by
        have h5 : n / 10 ^ (T + 1) = 0 := by rw [div10]; exact Nat.div_eq_of_lt (Nat.lt_of_le_of_lt h1 (by decide))
        have h6 : 10 ^ (T + 1) ≤ 10 ^ (k + 1) := Nat.pow_le_pow_right (by decide) (by omega)
        have h7 : n / 10 ^ (k + 1) ≤ n / 10 ^ (T + 1) := Nat.div_le_div_left h6 (Nat.pow_pos (by decide))
        rw [h5] at h7
        exact Nat.le_zero.mp h7
      show (if n / 10 ^ (k + 1) % 10 = 0 ∧ pad (k + 1) n ≠ [] then strp (pad (k + 1) n) else n / 10 ^ (k + 1) % 10 :: pad (k + 1) n) = _
      rw [if_pos ⟨by rw [hz], pad_ne (by omega)⟩]
      exact ih (by omega)
theorem unit_ex {n : Nat} (hn : n < 10000000000000000000) : ∃ T, T ≤ 18 ∧ n / 10 ^ T ≤ 9 ∧ (T = 0 ∨ 9 < n / 10 ^ (T - 1)) := by
  have key : ∀ k, k ≤ 18 → n / 10 ^ k ≤ 9 → ∃ T, T ≤ k ∧ n / 10 ^ T ≤ 9 ∧ (T = 0 ∨ 9 < n / 10 ^ (T - 1)) := by
    intro k
    induction k with
    | zero => intro _ h; exact ⟨0, by omega, h, Or.inl rfl⟩
    | succ k ih =>
      intro hk h
      by_cases c : n / 10 ^ k ≤ 9
      · obtain ⟨T, a, b⟩ := ih (by omega) c
        exact ⟨T, by omega, b⟩
      · exact ⟨k + 1, by omega, h, Or.inr (by show 9 < n / 10 ^ k; omega)⟩
  refine key 18 (by omega) ?_
  have h3 : (10 : Nat) ^ 18 = 1000000000000000000 := by decide
  rw [h3]
  omega
theorem numB_len {v : Int} (hv : v.natAbs < 10000000000000000000) : (numB v).length ≤ 20 ∧ (0 ≤ v → (numB v).length ≤ 19) ∧ (0 ≤ v → v < 1000 → (numB v).length ≤ 3) := by
  obtain ⟨T, t1, t2, t3⟩ := unit_ex hv
  have e : (numB v).length = (if v < 0 then 1 else 0) + (T + 1) := by
    unfold numB
    rw [List.length_append, List.length_map, strp_pad t2 t3 18 t1, pad_len]
    split <;> rfl
  rw [e]
  refine ⟨by split <;> omega, fun h => by rw [if_neg (by omega)]; omega, fun h h3 => ?_⟩
  rw [if_neg (by omega)]
  rcases t3 with c | c
  · omega
  · have hT : T - 1 < 2 := by
      by_cases w : T - 1 < 2
      · exact w
      · exfalso
        have h6 : 10 ^ 2 ≤ 10 ^ (T - 1) := Nat.pow_le_pow_right (by decide) (by omega)
        have h7 : v.natAbs / 10 ^ (T - 1) ≤ v.natAbs / 10 ^ 2 := Nat.div_le_div_left h6 (by decide)
        have : (10 : Nat) ^ 2 = 100 := by decide
        omega
    omega
theorem dg64 {n k : Nat} (hn : n < 9223372036854775808) (hk : k ≤ 18) : (lI (n : Int) / lI ((10 ^ k : Nat) : Int)) - (lI (n : Int) / lI ((10 ^ k : Nat) : Int)) / Int64.ofNat 10 * Int64.ofNat 10 = lI ((n / 10 ^ k % 10 : Nat) : Int) := by
  have h := p10 hk
  have hq : n / 10 ^ k ≤ n := Nat.div_le_self _ _
  rw [show Int64.ofNat 10 = lI 10 from rfl, lI_div (a := (n : Int)) (by omega) (by omega) (by omega) (by omega), ← Int.natCast_ediv]
  generalize n / 10 ^ k = Q at hq ⊢
  rw [lI_div (by omega) (by omega) (by omega) (by omega), lI_mul, lI_sub]
  congr 1
  omega
theorem pw10 {k : Nat} (hk : k + 1 ≤ 18) : lI ((10 ^ (k + 1) : Nat) : Int) / Int64.ofNat 10 = lI ((10 ^ k : Nat) : Int) := by
  have h := p10 hk
  rw [show Int64.ofNat 10 = lI ((10 : Nat) : Int) from rfl, lI_div (by omega) (by omega) (by omega) (by omega), ← Int.natCast_ediv, Nat.pow_succ, Nat.mul_div_cancel _ (by decide)]
theorem h_num_loop {n : Nat} (hn : n < 9223372036854775808) : ∀ (k fu : Nat) (b : Bool) (S : hS) (bs : List Int32), k ≤ 18 → k + 1 < fu → HAn S bs → bs.length + k + 1 ≤ 6000 → ∃ S', hl_An_putNumber_25 fu (lI (n : Int)) (b2i b) (lI ((10 ^ k : Nat) : Int)) S = some S' ∧ HAn S' (bs ++ (if b then pad (k + 1) n else strp (pad (k + 1) n)).map dig) ∧ aX S S' := by
  intro k
  induction k with
  | zero =>
    intro fu b S bs hk hf hA hl
    obtain ⟨fu, rfl⟩ : ∃ f, fu = f + 2 := ⟨fu - 2, by omega⟩
    have hd : n / 10 ^ 0 % 10 < 10 := Nat.mod_lt _ (by decide)
    obtain ⟨S1, a1, a2, a3⟩ := h_put' hA (by omega) (x := 48 + n / 10 ^ 0 % 10) (by omega)
    refine ⟨S1, ?_, ?_, a3⟩
    · unfold hl_An_putNumber_25
      rw [if_neg (fun q => by have := (cmp0_le (by omega)).mp q; simp at this), if_neg (fun q => by have := (lI_inj (by omega) (by omega)).mp (show lI ((10 ^ 0 : Nat) : Int) = lI 0 from q); simp at this), dg64 hn hk, lI_to32]
      have e1 : (if ¬ b2i b = 0 then some (1 : Int32) else (if ¬ nI (n / 10 ^ 0 % 10) = 0 then some 1 else (if ¬ lg_cmp (lI ((10 ^ 0 : Nat) : Int)) 1 = 0 then some 0 else some 1))) = some 1 := by
        by_cases c1 : ¬ b2i b = 0
        · rw [if_pos c1]
        · rw [if_neg c1]
          by_cases c2 : ¬ nI (n / 10 ^ 0 % 10) = 0
          · rw [if_pos c2]
          · rw [if_neg c2, if_neg (fun q => q (show lg_cmp (lI 1) (lI 1) = 0 by decide))]
      rw [e1, Option.bind_some, if_neg (by decide), show (48 : Int32) + nI (n / 10 ^ 0 % 10) = nI (48 + n / 10 ^ 0 % 10) from am_nadd 48 _, a1, Option.bind_some, Option.bind_some]
      unfold hl_An_putNumber_25
      rw [if_pos (show lg_cmp (lI ((10 ^ 0 : Nat) : Int) / Int64.ofNat 10) 0 ≤ 0 by decide)]
    · have : (if b then pad (0 + 1) n else strp (pad (0 + 1) n)) = [n / 10 ^ 0 % 10] := by
        cases b with
        | true => rfl
        | false =>
          show (if n / 10 ^ 0 % 10 = 0 ∧ ([] : List Nat) ≠ [] then _ else _) = _
          rw [if_neg (fun c => c.2 rfl)]; rfl
      rw [this]; exact a2
  | succ k ih =>
    intro fu b S bs hk hf hA hl
    obtain ⟨fu, rfl⟩ : ∃ f, fu = f + 1 := ⟨fu - 1, by omega⟩
    have hp := p10 hk
    have hd : n / 10 ^ (k + 1) % 10 < 10 := Nat.mod_lt _ (by decide)
    have hun : hl_An_putNumber_25 (fu + 1) (lI (n : Int)) (b2i b) (lI ((10 ^ (k + 1) : Nat) : Int)) S = ((some (b2i (b || decide (n / 10 ^ (k + 1) % 10 ≠ 0)))).bind fun (u11 : Int32) => ((if (u11 : Int32) = 0 then (some S) else ((h_An_put (nI (48 + n / 10 ^ (k + 1) % 10)) S).bind fun q24 => (some q24))).bind fun (u15 : hS) => (hl_An_putNumber_25 fu (lI (n : Int)) u11 (lI ((10 ^ k : Nat) : Int)) u15))) := by
      conv => lhs; unfold hl_An_putNumber_25
      rw [if_neg (fun q => by have := (cmp0_le (by omega)).mp q; omega), if_neg (fun q => by have := (lI_inj (by omega) (by omega)).mp (show lI ((10 ^ (k + 1) : Nat) : Int) = lI 0 from q); omega), dg64 hn hk, lI_to32, pw10 hk, show (48 : Int32) + nI (n / 10 ^ (k + 1) % 10) = nI (48 + n / 10 ^ (k + 1) % 10) from am_nadd 48 _]
      have e1 : (if ¬ b2i b = 0 then some (1 : Int32) else (if ¬ nI (n / 10 ^ (k + 1) % 10) = 0 then some 1 else (if ¬ lg_cmp (lI ((10 ^ (k + 1) : Nat) : Int)) 1 = 0 then some 0 else some 1))) = some (b2i (b || decide (n / 10 ^ (k + 1) % 10 ≠ 0))) := by
        cases b with
        | true => rw [if_pos (by decide)]; rfl
        | false =>
          rw [if_neg (by decide)]
          by_cases c2 : n / 10 ^ (k + 1) % 10 = 0
          · rw [if_neg (fun q => q (by rw [c2]; rfl)), if_pos (fun q => by
              have := (cmp_eq0 (a := ((10 ^ (k + 1) : Nat) : Int)) (b := 1) (by omega) (by omega)).mp q
              have h2 : 10 ≤ 10 ^ (k + 1) := by
                rw [Nat.pow_succ]
                have : 0 < 10 ^ k := Nat.pow_pos (by decide)
                omega
              omega)]
            simp [c2, b2i]
          · rw [if_pos (show ¬ nI (n / 10 ^ (k + 1) % 10) = 0 from fun q => c2 (nI_inj (by omega) (by omega) (show nI (n / 10 ^ (k + 1) % 10) = nI 0 from q)))]
            simp [c2, b2i]
      rw [e1]
    rw [Option.bind_some] at hun
    by_cases c : (b || decide (n / 10 ^ (k + 1) % 10 ≠ 0)) = true
    · obtain ⟨S1, a1, a2, a3⟩ := h_put' hA (by omega) (x := 48 + n / 10 ^ (k + 1) % 10) (by omega)
      rw [c, if_neg (by decide), a1, Option.bind_some, Option.bind_some] at hun
      obtain ⟨S', b1, b2, b3⟩ := ih fu true S1 _ (by omega) (by omega) a2 (by rw [List.length_append, List.length_singleton]; omega)
      refine ⟨S', hun.trans b1, ?_, a3.tr b3⟩
      have : (if b then pad (k + 1 + 1) n else strp (pad (k + 1 + 1) n)) = n / 10 ^ (k + 1) % 10 :: pad (k + 1) n := by
        cases b with
        | true => rfl
        | false =>
          rw [Bool.false_or, decide_eq_true_iff] at c
          show (if n / 10 ^ (k + 1) % 10 = 0 ∧ pad (k + 1) n ≠ [] then strp (pad (k + 1) n) else n / 10 ^ (k + 1) % 10 :: pad (k + 1) n) = _
          rw [if_neg (fun w => c w.1)]
      rw [this, List.map_cons]
      rw [if_pos rfl, List.append_assoc] at b2
      exact b2
    · have c' : b = false ∧ n / 10 ^ (k + 1) % 10 = 0 := by
        cases b with
        | true => exact absurd rfl c
        | false =>
          refine ⟨rfl, ?_⟩
          rw [Bool.false_or, decide_eq_true_iff] at c
          exact Decidable.of_not_not c
      obtain ⟨rfl, cz⟩ := c'
      have c0 : (false || decide (n / 10 ^ (k + 1) % 10 ≠ 0)) = false := by
        rw [cz]; rfl
      rw [c0, if_pos (by decide), Option.bind_some] at hun
      obtain ⟨S', b1, b2, b3⟩ := ih fu false S bs (by omega) (by omega) hA (by omega)
      refine ⟨S', hun.trans b1, ?_, b3⟩
      have : strp (pad (k + 1 + 1) n) = strp (pad (k + 1) n) := by
        show (if n / 10 ^ (k + 1) % 10 = 0 ∧ pad (k + 1) n ≠ [] then strp (pad (k + 1) n) else n / 10 ^ (k + 1) % 10 :: pad (k + 1) n) = _
        rw [if_pos ⟨cz, pad_ne (by omega)⟩]
      rw [if_neg (by decide), this]
      rw [if_neg (by decide)] at b2
      exact b2
theorem h_num {v : Int} (hv : -9000000000000000000 < v ∧ v < 9000000000000000000) {S : hS} {bs : List Int32} (hA : HAn S bs) (hl : bs.length + 20 ≤ 6000) : ∃ S', h_An_putNumber (lI v) S = some S' ∧ HAn S' (bs ++ numB v) ∧ aX S S' := by
  have e10 : Int64.ofNat 1000000000000000000 = lI ((10 ^ 18 : Nat) : Int) := by decide +kernel
  have eabs : (if 0 < lI v then lI v else - lI v) = lI ((v.natAbs : Nat) : Int) := by
    by_cases h : 0 < v
    · rw [if_pos (show (0 : Int64) < lI v from (lI_lt (a := 0) (by omega) (by omega)).mpr h)]
      congr 1; omega
    · rw [if_neg (show ¬ (0 : Int64) < lI v from fun q => h ((lI_lt (a := 0) (by omega) (by omega)).mp q)), lI_neg]
      congr 1; omega
  unfold h_An_putNumber numB
  rw [eabs, e10]
  by_cases h0 : 0 ≤ v
  · rw [if_pos ((cmp0_ge (by omega)).mpr h0), Option.bind_some, if_neg (by omega), List.nil_append]
    obtain ⟨S', a1, a2, a3⟩ := h_num_loop (n := v.natAbs) (by omega) 18 100000 false S bs (by omega) (by omega) hA (by omega)
    refine ⟨S', ?_, a2, a3⟩
    have a1' : hl_An_putNumber_25 100000 (lI ((v.natAbs : Nat) : Int)) 0 (lI ((10 ^ 18 : Nat) : Int)) S = some S' := a1
    rw [a1']; rfl
  · obtain ⟨S1, b1, b2, b3⟩ := h_put' hA (by omega) (x := 45) (by omega)
    have b1' : h_An_put 45 S = some S1 := b1
    rw [if_neg (fun q => h0 ((cmp0_ge (by omega)).mp q)), b1', Option.bind_some, Option.bind_some, if_pos (by omega)]
    obtain ⟨S', a1, a2, a3⟩ := h_num_loop (n := v.natAbs) (by omega) 18 100000 false S1 _ (by omega) (by omega) b2 (by rw [List.length_append, List.length_singleton]; omega)
    refine ⟨S', ?_, ?_, b3.tr a3⟩
    · have a1' : hl_An_putNumber_25 100000 (lI ((v.natAbs : Nat) : Int)) 0 (lI ((10 ^ 18 : Nat) : Int)) S1 = some S' := a1
      rw [a1']; rfl
    · rw [← List.append_assoc]; exact a2
/-! The reference's numbers. -/
theorem d_unit {n : Nat} (hn : n < 9223372036854775808) (s : mS) {T : Nat} (hT : T ≤ 18) (h1 : n / 10 ^ T ≤ 9) (h2 : T = 0 ∨ 9 < n / 10 ^ (T - 1)) : ∀ (d fu t : Nat), T - t = d → d < fu → t ≤ T → l_Mo_putNumber_28 fu (lI (n : Int)) (lI ((10 ^ t : Nat) : Int)) s = some (lI ((10 ^ T : Nat) : Int)) := by
  intro d
  induction d with
  | zero =>
    intro fu t hd hf ht
    obtain ⟨fu, rfl⟩ : ∃ f, fu = f + 1 := ⟨fu - 1, by omega⟩
    have e : t = T := by omega
    subst e
    have hp := p10 hT
    have hq : n / 10 ^ t ≤ n := Nat.div_le_self _ _
    unfold l_Mo_putNumber_28
    rw [if_neg (fun q => by have := (lI_inj (by omega) (by omega)).mp (show lI ((10 ^ t : Nat) : Int) = lI 0 from q); omega), lI_div (by omega) (by omega) (by omega) (by omega), ← Int.natCast_ediv, show Int64.ofNat 9 = lI 9 from rfl]
    generalize n / 10 ^ t = Q at hq h1 ⊢
    rw [if_pos ((cmp_le0 (by omega) (by omega)).mpr (by omega))]
  | succ d ih =>
    intro fu t hd hf ht
    obtain ⟨fu, rfl⟩ : ∃ f, fu = f + 1 := ⟨fu - 1, by omega⟩
    have hp := p10 (k := t) (by omega)
    have hq : n / 10 ^ t ≤ n := Nat.div_le_self _ _
    have h3 : 9 < n / 10 ^ t := by
      rcases h2 with c | c
      · omega
      · have h6 : 10 ^ t ≤ 10 ^ (T - 1) := Nat.pow_le_pow_right (by decide) (by omega)
        have h7 : n / 10 ^ (T - 1) ≤ n / 10 ^ t := Nat.div_le_div_left h6 hp.2
        omega
    unfold l_Mo_putNumber_28
    rw [if_neg (fun q => by have := (lI_inj (by omega) (by omega)).mp (show lI ((10 ^ t : Nat) : Int) = lI 0 from q); omega), lI_div (by omega) (by omega) (by omega) (by omega), ← Int.natCast_ediv, show Int64.ofNat 9 = lI 9 from rfl, if_neg (fun q => by
      generalize n / 10 ^ t = Q at hq h3 q
      have := (cmp_le0 (by omega) (by omega)).mp q
      omega), show Int64.ofNat 10 = lI ((10 : Nat) : Int) from rfl, lI_mul, ← Int.natCast_mul, ← Nat.pow_succ]
    exact ih fu (t + 1) (by omega) (by omega) (by omega)
theorem d_num_loop {n : Nat} (hn : n < 9223372036854775808) : ∀ (k fu : Nat) (s : mS) (bs : List Int32), k ≤ 18 → k + 1 < fu → AN s bs → bs.length + k + 1 < 32768 → ∃ s', l_Mo_putNumber_54 fu (lI (n : Int)) (lI ((10 ^ k : Nat) : Int)) s = some s' ∧ AN s' (bs ++ (pad (k + 1) n).map dig) ∧ mX [7] [] [25] [] s s' := by
  have e48 : ∀ x : Nat, x < 10 → Int64.toInt32 (Int64.ofNat 48 + lI (x : Int)) = nI (48 + x) := fun x hx => by
    rw [show Int64.ofNat 48 = lI 48 from rfl, lI_add, ← lI_to32]
    congr 1
  intro k
  induction k with
  | zero =>
    intro fu s bs hk hf hA hl
    obtain ⟨fu, rfl⟩ : ∃ f, fu = f + 2 := ⟨fu - 2, by omega⟩
    have hd : n / 10 ^ 0 % 10 < 10 := Nat.mod_lt _ (by decide)
    obtain ⟨s1, a1, a2, a3⟩ := d_put' hA (by omega) (x := 48 + n / 10 ^ 0 % 10) (by omega)
    refine ⟨s1, ?_, a2, a3⟩
    unfold l_Mo_putNumber_54
    rw [if_neg (fun q => by have := (cmp0_le (by omega)).mp q; simp at this), if_neg (fun q => by have := (lI_inj (by omega) (by omega)).mp (show lI ((10 ^ 0 : Nat) : Int) = lI 0 from q); simp at this), dg64 hn hk, e48 _ hd, a1, Option.bind_some]
    unfold l_Mo_putNumber_54
    rw [if_pos (show lg_cmp (lI ((10 ^ 0 : Nat) : Int) / Int64.ofNat 10) 0 ≤ 0 by decide)]
  | succ k ih =>
    intro fu s bs hk hf hA hl
    obtain ⟨fu, rfl⟩ : ∃ f, fu = f + 1 := ⟨fu - 1, by omega⟩
    have hp := p10 hk
    have hd : n / 10 ^ (k + 1) % 10 < 10 := Nat.mod_lt _ (by decide)
    obtain ⟨s1, a1, a2, a3⟩ := d_put' hA (by omega) (x := 48 + n / 10 ^ (k + 1) % 10) (by omega)
    obtain ⟨s', b1, b2, b3⟩ := ih fu s1 _ (by omega) (by omega) a2 (by rw [List.length_append, List.length_singleton]; omega)
    refine ⟨s', ?_, ?_, a3.tr b3⟩
    · unfold l_Mo_putNumber_54
      rw [if_neg (fun q => by have := (cmp0_le (by omega)).mp q; omega), if_neg (fun q => by have := (lI_inj (by omega) (by omega)).mp (show lI ((10 ^ (k + 1) : Nat) : Int) = lI 0 from q); omega), dg64 hn hk, e48 _ hd, a1, Option.bind_some, pw10 hk, b1]
    · rw [List.append_assoc] at b2
      exact b2
theorem d_num {v : Int} (hv : -9000000000000000000 < v ∧ v < 9000000000000000000) {s : mS} {bs : List Int32} (hA : AN s bs) (hl : bs.length + 20 < 32768) : ∃ s', d_Mo_putNumber (lI v) s = some s' ∧ AN s' (bs ++ numB v) ∧ mX [7] [] [25] [] s s' := by
  obtain ⟨T, t1, t2, t3⟩ := unit_ex (n := v.natAbs) (by omega)
  have hn : v.natAbs < 9223372036854775808 := by omega
  have es := strp_pad t2 t3 18 t1
  unfold d_Mo_putNumber numB
  rw [show (19 : Nat) = 18 + 1 from rfl, es]
  by_cases h0 : 0 ≤ v
  · have ev : lI v = lI ((v.natAbs : Nat) : Int) := by congr 1; omega
    rw [if_pos ((cmp0_ge (by omega)).mpr h0), Option.bind_some, if_pos ((cmp0_ge (by omega)).mpr h0), Option.bind_some, if_neg (by omega), List.nil_append, ev]
    obtain ⟨s', a1, a2, a3⟩ := d_num_loop hn T 100000 s bs t1 (by omega) hA (by omega)
    refine ⟨s', ?_, a2, a3⟩
    have u : l_Mo_putNumber_28 100000 (lI ((v.natAbs : Nat) : Int)) 1 s = some (lI ((10 ^ T : Nat) : Int)) := d_unit hn s t1 t2 t3 _ 100000 0 rfl (by omega) (by omega)
    rw [u, Option.bind_some, a1]; rfl
  · have ev : lI (-v) = lI ((v.natAbs : Nat) : Int) := by congr 1; omega
    obtain ⟨s1, b1, b2, b3⟩ := d_put' hA (by omega) (x := 45) (by omega)
    have b1' : d_Mo_put 45 s = some s1 := b1
    rw [if_neg (fun q => h0 ((cmp0_ge (by omega)).mp q)), b1', Option.bind_some, Option.bind_some, if_neg (fun q => h0 ((cmp0_ge (by omega)).mp q)), Option.bind_some, if_pos (by omega), lI_neg, ev]
    obtain ⟨s', a1, a2, a3⟩ := d_num_loop hn T 100000 s1 _ t1 (by omega) b2 (by rw [List.length_append, List.length_singleton]; omega)
    refine ⟨s', ?_, ?_, b3.tr a3⟩
    · have u : l_Mo_putNumber_28 100000 (lI ((v.natAbs : Nat) : Int)) 1 s1 = some (lI ((10 ^ T : Nat) : Int)) := d_unit hn s1 t1 t2 t3 _ 100000 0 rfl (by omega) (by omega)
      rw [u, Option.bind_some, a1]; rfl
    · rw [← List.append_assoc]; exact a2
