/-! The class's answer. -/
def HAn (S : hS) (bs : List Int32) : Prop := S.2.1 201 7 = nI bs.length ∧ ∀ (j : Nat) (b : Int32), bs[j]? = some b → S.2.2.2.2.1 8 j = b
theorem HAn.x {ki kl kr ka kb kq : List Nat} {S S' : hS} {bs : List Int32} (h : HAn S bs) (w : hX ki kl kr ka kb kq S S') (h1 : 201 ∉ ki) (h2 : 8 ∉ ka) : HAn S' bs := ⟨(w.ei _ h1 _).trans h.1, fun j b q => (w.ea _ h2 _).trans (h.2 j b q)⟩
theorem h_put {S : hS} {bs : List Int32} (hA : HAn S bs) (hl : bs.length < 6000) (c : Int32) : ∃ S', h_An_put c S = some S' ∧ HAn S' (bs ++ [tb c]) ∧ hX [201] [] [] [8] [] [] S S' := by
  refine ⟨hpI (hpA S 8 bs.length (tb c)) 201 7 (nI (bs.length + 1)), ?_, ⟨?_, fun j b hb => ?_⟩, (hX.rf.pA (by decide)).pI (by decide)⟩
  · unfold h_An_put
    rw [hA.1, if_neg (show ¬ (6000 : Int32) ≤ nI bs.length from nI_ngt (a := 6000) (by omega) (by omega) hl), ix_N hl (by omega), Option.bind_some, nI_add1]
    rfl
  · rw [List.length_append, List.length_singleton]; rfl
  · show up2 S.2.2.2.2.1 8 bs.length (tb c) 8 j = b
    rw [up2_at]
    rw [List.getElem?_append] at hb
    by_cases hj : j < bs.length
    · rw [if_pos hj] at hb
      rw [if_neg (by omega)]; exact hA.2 j b hb
    · rw [if_neg hj] at hb
      have := get_lt' hb
      rw [List.length_singleton] at this
      have hj0 : j - bs.length = 0 := by omega
      rw [hj0] at hb
      cases hb
      rw [if_pos (by omega)]
theorem h_put' {S : hS} {bs : List Int32} (hA : HAn S bs) (hl : bs.length < 6000) {x : Nat} (hx : x < 128) : ∃ S', h_An_put (nI x) S = some S' ∧ HAn S' (bs ++ [nI x]) ∧ hX [201] [] [] [8] [] [] S S' := by
  obtain ⟨S', a, b, c⟩ := h_put hA hl (nI x)
  rw [tb_nI hx] at b
  exact ⟨S', a, b, c⟩
abbrev aX (S S' : hS) : Prop := hX [201] [] [] [8] [] [] S S'
theorem h_text_loop {v : Nat} {cs : List Int32} (h1 : am_sl v = some (nI cs.length)) (h2 : ∀ (j : Nat) (c : Int32), cs[j]? = some c → am_sc v (nI j) = some c) (h3 : ∀ c ∈ cs, tb c = c) (h4 : cs.length ≤ 100) : ∀ (d fu j : Nat) (S : hS) (bs : List Int32), HAn S bs → bs.length + d ≤ 6000 → cs.length - j = d → d < fu → j ≤ cs.length → ∃ S', hl_An_putText_2 fu v (nI j) S = some S' ∧ HAn S' (bs ++ cs.drop j) ∧ aX S S' := by
  intro d
  induction d with
  | zero =>
    intro fu j S bs hA hb hd hf hj
    obtain ⟨fu, rfl⟩ : ∃ f, fu = f + 1 := ⟨fu - 1, by omega⟩
    refine ⟨S, ?_, ?_, hX.rf⟩
    · unfold hl_An_putText_2
      rw [h1, Option.bind_some, if_pos (nI_le0 (by omega) (by omega) (by omega))]
    · rw [List.drop_of_length_le (by omega), List.append_nil]; exact hA
  | succ d ih =>
    intro fu j S bs hA hb hd hf hj
    obtain ⟨fu, rfl⟩ : ∃ f, fu = f + 1 := ⟨fu - 1, by omega⟩
    obtain ⟨c, hc⟩ := get_lt (ks := cs) (j := j) (by omega)
    obtain ⟨S1, a1, a2, a3⟩ := h_put hA (by omega) c
    rw [h3 c (List.mem_of_getElem? hc)] at a2
    obtain ⟨S', b1, b2, b3⟩ := ih fu (j + 1) S1 _ a2 (by rw [List.length_append, List.length_singleton]; omega) (by omega) (by omega) (by omega)
    refine ⟨S', ?_, ?_, a3.tr b3⟩
    · unfold hl_An_putText_2
      rw [h1, Option.bind_some, if_neg (nI_ngt (by omega) (by omega) (by omega)), h2 j c hc, Option.bind_some, a1, Option.bind_some, nI_add1, b1]
    · rw [drop_cons hc]
      rw [List.append_assoc] at b2
      exact b2
theorem get_all {cs : List Int32} {R : Nat → Int32 → Prop} (h : ∀ j, j < cs.length → R j (cs.getD j 0)) : ∀ (j : Nat) (c : Int32), cs[j]? = some c → R j c := fun j c hc => by
  have := h j (get_lt' hc)
  rw [List.getD_eq_getElem?_getD, hc] at this
  exact this
def txt (v : Nat) : List Int32 := match v with
  | 0 => [79, 75, 32, 65, 71, 65, 73, 78]
  | 1 => [78, 79, 32]
  | 2 => [79, 75]
  | 3 => [79, 75, 32, 68, 79, 78, 69]
  | 4 => [79, 75, 32, 87, 65, 73, 84]
  | _ => [79, 75, 32, 67, 79, 78, 70]
theorem txt_len : ∀ v, v < 6 → (txt v).length ≤ 8 := by decide
theorem txt_sl : ∀ v, v < 6 → am_sl v = some (nI (txt v).length) := by decide +kernel
theorem txt_sc : ∀ v, v < 6 → ∀ j, j < (txt v).length → am_sc v (nI j) = some ((txt v).getD j 0) := by decide +kernel
theorem txt_tb : ∀ v, v < 6 → ∀ c ∈ txt v, tb c = c := by decide +kernel
theorem h_text {S : hS} {bs : List Int32} (hA : HAn S bs) {v : Nat} (hv : v < 6) (hl : bs.length + 8 ≤ 6000) : ∃ S', h_An_putText v S = some S' ∧ HAn S' (bs ++ txt v) ∧ aX S S' := by
  have h8 := txt_len v hv
  obtain ⟨S', a, b, c⟩ := h_text_loop (v := v) (cs := txt v) (txt_sl v hv) (get_all (txt_sc v hv)) (txt_tb v hv) (by omega) _ 100000 0 S bs hA (by omega) rfl (by omega) (by omega)
  refine ⟨S', ?_, b, c⟩
  unfold h_An_putText
  rw [show (0 : Int32) = nI 0 from rfl, a]; rfl
theorem h_line {S : hS} {bs : List Int32} (hA : HAn S bs) {v : Nat} (hv : v < 6) (hl : bs.length + 9 ≤ 6000) : ∃ S', h_An_putLine v S = some S' ∧ HAn S' (bs ++ txt v ++ [nI 10]) ∧ aX S S' := by
  have h8 := txt_len v hv
  obtain ⟨S1, a1, a2, a3⟩ := h_text hA hv (by omega)
  obtain ⟨S2, b1, b2, b3⟩ := h_put' a2 (by rw [List.length_append]; omega) (x := 10) (by omega)
  refine ⟨S2, ?_, b2, a3.tr b3⟩
  unfold h_An_putLine
  have b1' : h_An_put 10 S1 = some S2 := b1
  rw [a1, Option.bind_some, b1']; rfl
/-! Names. -/
theorem b36_div (a : List Nat) : ∀ (k : Nat) (t : List Nat), t.length = k → is36 t → b36 (a ++ t) / 36 ^ k = b36 a := by
  intro k
  induction k with
  | zero => intro t ht _; rw [List.length_eq_zero_iff.mp ht, List.append_nil]; simp
  | succ k ih =>
    intro t ht hs
    have hne : t ≠ [] := fun q => by rw [q] at ht; cases ht
    rw [← List.dropLast_concat_getLast hne] at hs ht ⊢
    obtain ⟨g1, g2⟩ := is36_app hs
    rw [List.length_append, List.length_singleton] at ht
    rw [← List.append_assoc, b36_app, Nat.pow_succ, Nat.mul_comm (36 ^ k) 36, ← Nat.div_div_eq_div_mul]
    rw [show (b36 (a ++ t.dropLast) * 36 + t.getLast hne) / 36 = b36 (a ++ t.dropLast) by omega]
    exact ih t.dropLast (by omega) g1
theorem lI_to32 {d : Nat} : Int64.toInt32 (lI (d : Int)) = nI d := by
  unfold lI
  rw [Int64.toInt32_ofInt]
  exact Int32.ofInt_eq_ofNat
theorem p36_le {k : Nat} (h : k ≤ 8) : 36 ^ k ≤ 2821109907456 ∧ 0 < 36 ^ k := by
  refine ⟨?_, Nat.pow_pos (by decide)⟩
  have : 36 ^ k ≤ 36 ^ 8 := Nat.pow_le_pow_right (by decide) h
  have h3 : (36 : Nat) ^ 8 = 2821109907456 := by decide
  omega
theorem h_code_pow (v1 : Int64) (S : hS) {n : Nat} (hn : n ≤ 8) : ∀ (d fu k : Nat), n - (k + 1) = d → d < fu → k + 1 ≤ n → hl_An_putCode_6 fu v1 (nI n) (lI ((36 ^ k : Nat) : Int)) (nI (k + 1)) S = some (lI ((36 ^ (n - 1) : Nat) : Int)) := by
  intro d
  induction d with
  | zero =>
    intro fu k hd hf hk
    obtain ⟨fu, rfl⟩ : ∃ f, fu = f + 1 := ⟨fu - 1, by omega⟩
    unfold hl_An_putCode_6
    rw [if_pos (nI_le0 (by omega) (by omega) (by omega)), show n - 1 = k by omega]
  | succ d ih =>
    intro fu k hd hf hk
    obtain ⟨fu, rfl⟩ : ∃ f, fu = f + 1 := ⟨fu - 1, by omega⟩
    unfold hl_An_putCode_6
    rw [if_neg (nI_ngt (by omega) (by omega) (by omega)), nI_add1, show Int64.ofNat 36 = lI ((36 : Nat) : Int) from rfl, lI_mul, ← Int.natCast_mul, ← Nat.pow_succ]
    exact ih fu (k + 1) (by omega) (by omega) (by omega)
theorem h_code_loop {d : List Nat} (hd : is36 d) {n : Nat} (hn : d.length = n) (hn8 : n ≤ 8) : ∀ (k fu : Nat) (p t : List Nat) (S : hS) (bs : List Int32), d = p ++ t → t.length = k + 1 → k + 1 < fu → HAn S bs → bs.length + k + 1 ≤ 6000 → ∃ S', hl_An_putCode_29 fu (lI (b36 d : Nat)) (nI n) (lI ((36 ^ k : Nat) : Int)) (nI p.length) S = some S' ∧ HAn S' (bs ++ chs t) ∧ aX S S' := by
  have hb := b36_lt n d hn hd
  have hb8 := p36_le hn8
  intro k
  induction k with
  | zero =>
    intro fu p t S bs he ht hf hA hl
    obtain ⟨fu, rfl⟩ : ∃ f, fu = f + 2 := ⟨fu - 2, by omega⟩
    obtain ⟨x, rfl⟩ : ∃ x, t = [x] := List.length_eq_one_iff.mp ht
    have hx : x < 36 := hd x (by rw [he]; simp)
    have hc := chr36_lt hx
    have hpl : p.length + 1 = n := by rw [← hn, he]; simp
    have e0 : lI (b36 d : Nat) / lI ((36 ^ 0 : Nat) : Int) = lI ((b36 d : Nat) : Int) := by
      rw [lI_div (by omega) (by omega) (by omega) (by omega)]; simp
    have e1 : Int64.toInt32 (lI ((b36 d : Nat) : Int) - lI ((b36 d : Nat) : Int) / Int64.ofNat 36 * Int64.ofNat 36) = nI x := by
      rw [show Int64.ofNat 36 = lI 36 from rfl, lI_div (by omega) (by omega) (by omega) (by omega), lI_mul, lI_sub, ← lI_to32]
      congr 2
      rw [he, b36_app]; omega
    obtain ⟨S1, a1, a2, a3⟩ := h_put' hA (by omega) (x := chr36 x) (by omega)
    refine ⟨S1, ?_, a2, a3⟩
    unfold hl_An_putCode_29
    rw [if_neg (nI_ngt (by omega) (by omega) (by omega)), if_neg (fun q => by have := (cmp_le0 (by omega) (by omega)).mp (show lg_cmp (lI ((36 ^ 0 : Nat) : Int)) (lI 0) ≤ 0 from q); simp at this), if_neg (fun q => by have := (lI_inj (by omega) (by omega)).mp (show lI ((36 ^ 0 : Nat) : Int) = lI 0 from q); simp at this), e0, e1]
    have e2 : (if (10 : Int32) ≤ nI x then some ((65 + nI x) - 10) else some (48 + nI x)) = some (nI (chr36 x)) := by
      unfold chr36
      by_cases h : x < 10
      · rw [if_neg (show ¬ (10 : Int32) ≤ nI x from nI_ngt (a := 10) (by omega) (by omega) h), if_pos h]; exact congrArg some (am_nadd 48 x)
      · rw [if_pos (show (10 : Int32) ≤ nI x from nI_le0 (a := 10) (by omega) (by omega) (by omega)), if_neg h, show (65 : Int32) + nI x = nI (65 + x) from am_nadd 65 x, show (10 : Int32) = nI 10 from rfl, nI_sub' (by omega)]
        exact congrArg some (congrArg nI (by omega))
    rw [e2, Option.bind_some, a1, Option.bind_some, nI_add1]
    unfold hl_An_putCode_29
    rw [if_pos (nI_le0 (by omega) (by omega) (by omega))]
  | succ k ih =>
    intro fu p t S bs he ht hf hA hl
    obtain ⟨fu, rfl⟩ : ∃ f, fu = f + 1 := ⟨fu - 1, by omega⟩
    obtain ⟨x, t, rfl⟩ : ∃ x t', t = x :: t' := by
      cases t with
      | nil => cases ht
      | cons x t => exact ⟨x, t, rfl⟩
    have hx : x < 36 := hd x (by rw [he]; simp)
    have hc := chr36_lt hx
    rw [List.length_cons] at ht
    have hpl : p.length + (k + 2) = n := by rw [← hn, he, List.length_append, List.length_cons]; omega
    have hk := p36_le (k := k + 1) (by omega)
    have hk2 := p36_le (k := k) (by omega)
    have h1 := b36_div (p ++ [x]) (k + 1) t (by omega) (fun y hy => hd y (by rw [he]; simp [hy]))
    rw [List.append_assoc, List.singleton_append, ← he, b36_app] at h1
    have e0 : lI (b36 d : Nat) / lI ((36 ^ (k + 1) : Nat) : Int) = lI ((b36 p * 36 + x : Nat) : Int) := by
      rw [lI_div (by omega) (by omega) (by omega) (by omega), ← Int.natCast_ediv, h1]
    have hpx : b36 p * 36 + x ≤ b36 d := by rw [← h1]; exact Nat.div_le_self _ _
    have e1 : Int64.toInt32 (lI ((b36 p * 36 + x : Nat) : Int) - lI ((b36 p * 36 + x : Nat) : Int) / Int64.ofNat 36 * Int64.ofNat 36) = nI x := by
      rw [show Int64.ofNat 36 = lI 36 from rfl, lI_div (by omega) (by omega) (by omega) (by omega), lI_mul, lI_sub, ← lI_to32]
      congr 2
      omega
    obtain ⟨S1, a1, a2, a3⟩ := h_put' hA (by omega) (x := chr36 x) (by omega)
    obtain ⟨S', b1, b2, b3⟩ := ih fu (p ++ [x]) t S1 _ (by rw [he]; simp) (by omega) (by omega) a2 (by rw [List.length_append, List.length_singleton]; omega)
    refine ⟨S', ?_, ?_, a3.tr b3⟩
    · unfold hl_An_putCode_29
      rw [if_neg (nI_ngt (by omega) (by omega) (by omega)), if_neg (fun q => by have := (cmp_le0 (by omega) (by omega)).mp (show lg_cmp (lI ((36 ^ (k + 1) : Nat) : Int)) (lI 0) ≤ 0 from q); omega), if_neg (fun q => by have := (lI_inj (by omega) (by omega)).mp (show lI ((36 ^ (k + 1) : Nat) : Int) = lI 0 from q); omega), e0, e1]
      have e2 : (if (10 : Int32) ≤ nI x then some ((65 + nI x) - 10) else some (48 + nI x)) = some (nI (chr36 x)) := by
        unfold chr36
        by_cases h : x < 10
        · rw [if_neg (show ¬ (10 : Int32) ≤ nI x from nI_ngt (a := 10) (by omega) (by omega) h), if_pos h]; exact congrArg some (am_nadd 48 x)
        · rw [if_pos (show (10 : Int32) ≤ nI x from nI_le0 (a := 10) (by omega) (by omega) (by omega)), if_neg h, show (65 : Int32) + nI x = nI (65 + x) from am_nadd 65 x, show (10 : Int32) = nI 10 from rfl, nI_sub' (by omega)]
          exact congrArg some (congrArg nI (by omega))
      have e3 : lI ((36 ^ (k + 1) : Nat) : Int) / Int64.ofNat 36 = lI ((36 ^ k : Nat) : Int) := by
        rw [show Int64.ofNat 36 = lI ((36 : Nat) : Int) from rfl, lI_div (by omega) (by omega) (by omega) (by omega), ← Int.natCast_ediv, Nat.pow_succ, Nat.mul_div_cancel _ (by decide)]
      rw [e2, Option.bind_some, a1, Option.bind_some, nI_add1, e3]
      rw [List.length_append, List.length_singleton] at b1
      exact b1
    · rw [List.append_assoc] at b2
      exact b2
theorem h_code {d : List Nat} (hd : is36 d) {n : Nat} (hn : d.length = n + 1) (hn8 : n < 8) {S : hS} {bs : List Int32} (hA : HAn S bs) (hl : bs.length + n + 1 ≤ 6000) : ∃ S', h_An_putCode (lI (b36 d : Nat)) (nI (n + 1)) S = some S' ∧ HAn S' (bs ++ chs d) ∧ aX S S' := by
  obtain ⟨S', a, b, c⟩ := h_code_loop hd hn (by omega) n 100000 [] d S bs rfl hn (by omega) hA hl
  refine ⟨S', ?_, b, c⟩
  unfold h_An_putCode
  have e : hl_An_putCode_6 100000 (lI (b36 d : Nat)) (nI (n + 1)) 1 1 S = some (lI ((36 ^ n : Nat) : Int)) := h_code_pow (lI (b36 d : Nat)) S (n := n + 1) (by omega) _ 100000 0 rfl (by omega) (by omega)
  have a' : hl_An_putCode_29 100000 (lI (b36 d : Nat)) (nI (n + 1)) (lI ((36 ^ n : Nat) : Int)) 0 S = some S' := a
  rw [e, Option.bind_some, a']; rfl
/-! What is told. -/
def telB (z : Z) (es : List (Ins × Bool)) : List Int32 := (es.map fun e => evB z (if e.2 then 83 else 66) e.1).flatten
theorem h_tell_loop {z : Z} {g : hG} {es : List (Ins × Bool)} (hcod : ∀ c ∈ z.mem, c.length = 4 ∧ is36 c) (hes : ∀ e ∈ es, e.1.who < z.mem.length ∧ e.1.nm.length = 8 ∧ is36 e.1.nm) (hel : es.length ≤ 250) : ∀ (d fu j : Nat) (S : hS) (bs : List Int32), HO S z g es → HAn S bs → bs.length + 14 * d ≤ 6000 → es.length - j = d → d < fu → j ≤ es.length → ∃ S', hl_Qu_tell_2 fu (nI j) S = some S' ∧ HAn S' (bs ++ telB z (es.drop j)) ∧ aX S S' := by
  intro d
  induction d with
  | zero =>
    intro fu j S bs hO hA hb hd hf hj
    obtain ⟨fu, rfl⟩ : ∃ f, fu = f + 1 := ⟨fu - 1, by omega⟩
    refine ⟨S, ?_, ?_, hX.rf⟩
    · unfold hl_Qu_tell_2
      rw [hO.sz, if_pos (nI_le0 (by omega) (by omega) (by omega))]
    · rw [List.drop_of_length_le (by omega)]
      show HAn S (bs ++ [])
      rw [List.append_nil]; exact hA
  | succ d ih =>
    intro fu j S bs hO hA hb hd hf hj
    obtain ⟨fu, rfl⟩ : ∃ f, fu = f + 1 := ⟨fu - 1, by omega⟩
    obtain ⟨e, he⟩ := get_lt (ks := es) (j := j) (by omega)
    obtain ⟨r1, r2, r3⟩ := hO.row j e he
    obtain ⟨w1, w2, w3⟩ := hes e (List.mem_of_getElem? he)
    obtain ⟨c, hc⟩ := get_lt (ks := z.mem) (j := e.1.who) w1
    have hgd : z.mem.getD e.1.who [] = c := by rw [List.getD_eq_getElem?_getD, hc]; rfl
    obtain ⟨c1, c2⟩ := hcod c (List.mem_of_getElem? hc)
    have hcl := b36_lt 4 c c1 c2
    rw [show (36 : Nat) ^ 4 = 1679616 by decide] at hcl
    have hu : (if ¬ S.2.1 704 (g.xi e.1) = 2 then some 66 else some 83) = some (nI (if e.2 then 83 else 66)) := by
      rw [r2]
      cases e.2 <;> decide
    obtain ⟨S1, a1, a2, a3⟩ := h_put' hA (by omega) (x := if e.2 then 83 else 66) (by split <;> omega)
    obtain ⟨S2, b1, b2, b3⟩ := h_code c2 (n := 3) c1 (by omega) a2 (by rw [List.length_append, List.length_singleton]; omega)
    obtain ⟨S3, d1, d2, d3⟩ := h_code w3 (n := 7) w2 (by omega) b2 (by rw [List.length_append, List.length_append, List.length_singleton, chs_len]; omega)
    obtain ⟨S4, f1, f2, f3⟩ := h_put' d2 (x := 10) (by simp only [List.length_append, List.length_singleton, chs_len]; omega) (by omega)
    have W : aX S S4 := ((a3.tr b3).tr d3).tr f3
    obtain ⟨S', p1, p2, p3⟩ := ih fu (j + 1) S4 _ (hO.x W (by decide) (by simp) (by simp)) f2 (by simp only [List.length_append, List.length_singleton, chs_len]; omega) (by omega) (by omega) (by omega)
    refine ⟨S', ?_, ?_, W.tr p3⟩
    · unfold hl_Qu_tell_2
      rw [hO.sz, if_neg (nI_ngt (by omega) (by omega) (by omega)), ix_N (by omega) (by omega), Option.bind_some, r1, Option.bind_some, hu, Option.bind_some, a1, Option.bind_some, (a3.eq _ (by simp) _).trans r1, Option.bind_some, (a3.ei _ (by decide) _).trans r3.cod, hgd, nI_toL (by omega)]
      have b1' : h_An_putCode (lI ((b36 c : Nat) : Int)) 4 S1 = some S2 := b1
      have d1' : h_An_putCode (lI ((b36 e.1.nm : Nat) : Int)) 8 S2 = some S3 := d1
      have f1' : h_An_put 10 S3 = some S4 := f1
      rw [b1', Option.bind_some, ((a3.tr b3).eq _ (by simp) _).trans r1, Option.bind_some, ((a3.tr b3).el _ (by simp) _).trans r3.nm, d1', Option.bind_some, f1', Option.bind_some, nI_add1, p1]
    · have : telB z (es.drop j) = evB z (if e.2 then 83 else 66) e.1 ++ telB z (es.drop (j + 1)) := by
        rw [drop_cons he]; rfl
      rw [this]
      unfold evB
      rw [hgd]
      simpa only [List.append_assoc] using p2
theorem h_tell {S : hS} {z : Z} {g : hG} {es : List (Ins × Bool)} {bs : List Int32} (hO : HO S z g es) (hA : HAn S bs) (hcod : ∀ c ∈ z.mem, c.length = 4 ∧ is36 c) (hes : ∀ e ∈ es, e.1.who < z.mem.length ∧ e.1.nm.length = 8 ∧ is36 e.1.nm) (hl : bs.length + 14 * es.length ≤ 6000) : ∃ S', h_Qu_tell S = some S' ∧ HAn S' (bs ++ telB z es) ∧ HO S' z g [] ∧ hX [201, 1105] [] [] [8] [] [] S S' := by
  have hel := hO.len
  obtain ⟨S1, a1, a2, a3⟩ := h_tell_loop hcod hes (by omega) _ 100000 0 S bs hO hA (by omega) rfl (by omega) (by omega)
  have w : hX [201, 1105] [] [] [8] [] [] S (hpI S1 1105 16 0) := (a3.mono (by simp) (by simp) (by simp) (by simp) (by simp) (by simp)).pI (by decide)
  have w1 : hX [1105] [] [] [] [] [] S1 (hpI S1 1105 16 0) := hX.rf.pI (by decide)
  refine ⟨hpI S1 1105 16 0, ?_, a2.x w1 (by decide) (by simp), ⟨(by simp [hpI, up2]; rfl), fun j e he => (by cases he), fun e he => (by cases he), by rw [List.length_nil]; omega⟩, w⟩
  unfold h_Qu_tell
  rw [show (0 : Int32) = nI 0 from rfl, a1]; rfl
