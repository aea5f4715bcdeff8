/-! Giving, pledging, limiting. -/
theorem okZ.giv {n : Nat} {z : Z} (h : okZ n z) {p a : Nat} (hp : p < z.mem.length) (h0 : p ≠ 0) (ha : a < z.ast.length) {v : Int} (hv : -1000000000000000 < v ∧ v < 1000000000000000) : okZ (n + 1) ((z.mvH a (-v)).mvH (64 * p + a) v) := by
  have hb := big_s n
  have hm := h.mem
  have hla := h.ast
  have hne : a ≠ 64 * p + a := by omega
  refine ⟨h.mem, h.cod, h.ast, h.acd, h.fc, by have := h.tot; exact Int.le_trans this (by omega), fun P => ?_, fun P => by have := h.beg P; show -(big (n + 1)) ≤ z.beg P ∧ z.beg P ≤ big (n + 1); omega, fun P => ?_, fun P => ?_, fun P => by have := h.pl P; show 0 ≤ z.pl P ∧ z.pl P ≤ big (n + 1); omega, fun P => ?_, fun k => ?_, h.lim, by have := h.lims; show -((n + 1 : Nat) : Int) ≤ z.lims ∧ z.lims ≤ 2000; omega, h.ins, h.oki, h.unq, h.tns, by have := h.turns; show z.turns ≤ n + 1; omega, h.tick, fun P hP hq => ?_, fun k hk hq => ?_, h.bank, h.mpl, h.crd⟩
  · have := h.pos P
    show -(big (n + 1)) ≤ (if P = 64 * p + a then (if P = a then z.pos P + (-v) else z.pos P) + v else (if P = a then z.pos P + (-v) else z.pos P)) - z.tot ∧ (if P = 64 * p + a then (if P = a then z.pos P + (-v) else z.pos P) + v else (if P = a then z.pos P + (-v) else z.pos P)) + z.tot ≤ big (n + 1)
    split <;> split <;> omega
  · have := h.wnt P
    show 0 ≤ (if P = 64 * p + a ∧ v < 0 then (if P = a ∧ -v < 0 then z.wnt P - (-v) else z.wnt P) - v else (if P = a ∧ -v < 0 then z.wnt P - (-v) else z.wnt P)) ∧ (if P = 64 * p + a ∧ v < 0 then (if P = a ∧ -v < 0 then z.wnt P - (-v) else z.wnt P) - v else (if P = a ∧ -v < 0 then z.wnt P - (-v) else z.wnt P)) + z.tot ≤ big (n + 1)
    split <;> split <;> omega
  · have := h.cam P
    show 0 ≤ (if P = 64 * p + a ∧ 0 < v then (if P = a ∧ 0 < -v then z.cam P + (-v) else z.cam P) + v else (if P = a ∧ 0 < -v then z.cam P + (-v) else z.cam P)) ∧ (if P = 64 * p + a ∧ 0 < v then (if P = a ∧ 0 < -v then z.cam P + (-v) else z.cam P) + v else (if P = a ∧ 0 < -v then z.cam P + (-v) else z.cam P)) + z.tot ≤ big (n + 1)
    split <;> split <;> omega
  · have := h.mv P
    show (if P = 64 * p + a ∧ v ≠ 0 then (if P = a ∧ -v ≠ 0 then z.mv P + 1 else z.mv P) + 1 else (if P = a ∧ -v ≠ 0 then z.mv P + 1 else z.mv P)) + z.ins.length ≤ n + 1
    split <;> split <;> omega
  · have := h.paid k
    show -(big (n + 1)) ≤ (if 16384 + k = 64 * p + a then (if 16384 + k = a then z.paid k - (-v) else z.paid k) - v else (if 16384 + k = a then z.paid k - (-v) else z.paid k)) - z.tot ∧ (if 16384 + k = 64 * p + a then (if 16384 + k = a then z.paid k - (-v) else z.paid k) - v else (if 16384 + k = a then z.paid k - (-v) else z.paid k)) + z.tot ≤ big (n + 1)
    rw [if_neg (by omega), if_neg (by omega)]
    omega
  · have hq' : z.mem.length ≤ P / 64 ∨ z.ast.length ≤ P % 64 := hq
    have := h.out P hP hq
    show (if P = 64 * p + a then (if P = a then z.pos P + (-v) else z.pos P) + v else (if P = a then z.pos P + (-v) else z.pos P)) = 0 ∧ z.pl P = 0 ∧ z.beg P = 0 ∧ (if P = 64 * p + a ∧ v < 0 then (if P = a ∧ -v < 0 then z.wnt P - (-v) else z.wnt P) - v else (if P = a ∧ -v < 0 then z.wnt P - (-v) else z.wnt P)) = 0 ∧ (if P = 64 * p + a ∧ 0 < v then (if P = a ∧ 0 < -v then z.cam P + (-v) else z.cam P) + v else (if P = a ∧ 0 < -v then z.cam P + (-v) else z.cam P)) = 0 ∧ (if P = 64 * p + a ∧ v ≠ 0 then (if P = a ∧ -v ≠ 0 then z.mv P + 1 else z.mv P) + 1 else (if P = a ∧ -v ≠ 0 then z.mv P + 1 else z.mv P)) = 0
    have n1 : P ≠ 64 * p + a := by omega
    have n2 : P ≠ a := by omega
    rw [if_neg n1, if_neg n2, if_neg (fun c => n1 c.1), if_neg (fun c => n2 c.1), if_neg (fun c => n1 c.1), if_neg (fun c => n2 c.1), if_neg (fun c => n1 c.1), if_neg (fun c => n2 c.1)]
    exact this
  · show (if 16384 + k = 64 * p + a then (if 16384 + k = a then z.paid k - (-v) else z.paid k) - v else (if 16384 + k = a then z.paid k - (-v) else z.paid k)) = 0 ∧ z.lim k = -1
    rw [if_neg (by omega), if_neg (by omega)]
    exact h.outr k hk hq
theorem sumZ_cng {f f' : Nat → Int} : ∀ {n : Nat}, (∀ k, k < n → f' k = f k) → sumZ f' n = sumZ f n := by
  intro n
  induction n with
  | zero => intro _; rfl
  | succ n ih =>
    intro h
    show sumZ f' n + f' n = sumZ f n + f n
    rw [ih (fun k hk => h k (by omega)), h n (by omega)]
theorem sumZ_upd {f f' : Nat → Int} {a : Nat} {v : Int} (h : ∀ k, k ≠ a → f' k = f k) (h1 : f' a = f a + v) : ∀ {n : Nat}, a < n → sumZ f' n = sumZ f n + v := by
  intro n
  induction n with
  | zero => intro ha; omega
  | succ n ih =>
    intro ha
    show sumZ f' n + f' n = sumZ f n + f n + v
    by_cases c : a = n
    · subst c
      rw [sumZ_cng (fun k hk => h k (by omega)), h1]; omega
    · rw [ih (by omega), h n (fun q => c q.symm)]; omega
theorem good.giv {n : Nat} {z : Z} (h : okZ n z) (hG : good z) {p a : Nat} (hp : p < z.mem.length) (h0 : p ≠ 0) (ha : a < z.ast.length) {v : Int} (hv : 0 ≤ v ∨ z.flr (64 * p + a) ≤ z.pos (64 * p + a) + v) : good ((z.mvH a (-v)).mvH (64 * p + a) v) := by
  have hm := h.mem
  have hla := h.ast
  have e : ∀ P, ((z.mvH a (-v)).mvH (64 * p + a) v).pos P = (if P = 64 * p + a then (if P = a then z.pos P + (-v) else z.pos P) + v else (if P = a then z.pos P + (-v) else z.pos P)) := fun P => rfl
  refine ⟨fun P h64 hP h3 h4 => ?_, fun b hb => ?_, fun k hk hl => ?_⟩
  · have g1 := hG.1 P h64 hP h3 h4
    rw [e]
    show z.flr P ≤ _
    have n2 : P ≠ a := by omega
    rw [if_neg n2]
    by_cases c : P = 64 * p + a
    · rw [if_pos c]
      rw [c] at g1 ⊢
      rcases hv with q | q
      · omega
      · exact q
    · rw [if_neg c]; exact g1
  · have hb' : b < z.ast.length := hb
    show sumZ (fun k => ((z.mvH a (-v)).mvH (64 * p + a) v).pos (64 * k + b)) z.mem.length = 0
    have g2 := hG.2.1 b hb
    by_cases c : b = a
    · have u1 : sumZ (fun k => (if k = 0 then z.pos (64 * k + b) + (-v) else z.pos (64 * k + b))) z.mem.length = sumZ (fun k => z.pos (64 * k + b)) z.mem.length + (-v) := sumZ_upd (f := fun k => z.pos (64 * k + b)) (f' := fun k => (if k = 0 then z.pos (64 * k + b) + (-v) else z.pos (64 * k + b))) (v := -v) (a := 0) (n := z.mem.length) (fun k hk => if_neg hk) (if_pos rfl) (show 0 < z.mem.length by omega)
      have u2 : sumZ (fun k => ((z.mvH a (-v)).mvH (64 * p + a) v).pos (64 * k + b)) z.mem.length = sumZ (fun k => (if k = 0 then z.pos (64 * k + b) + (-v) else z.pos (64 * k + b))) z.mem.length + v := by
        refine sumZ_upd (a := p) (fun k hk => ?_) ?_ hp
        · show ((z.mvH a (-v)).mvH (64 * p + a) v).pos (64 * k + b) = _
          rw [e, if_neg (by omega)]
          by_cases c2 : k = 0
          · rw [if_pos (by omega), if_pos c2]
          · rw [if_neg (by omega), if_neg c2]
        · show ((z.mvH a (-v)).mvH (64 * p + a) v).pos (64 * p + b) = _
          rw [e, if_pos (by omega), if_neg (by omega), if_neg h0]
      rw [u2, u1, g2]; omega
    · rw [sumZ_cng (f := fun k => z.pos (64 * k + b)) (fun k _ => ?_)]
      · exact g2
      · show ((z.mvH a (-v)).mvH (64 * p + a) v).pos (64 * k + b) = _
        rw [e, if_neg (by omega), if_neg (by omega)]
  · have g3 := hG.2.2 k hk hl
    show (if 16384 + k = 64 * p + a then (if 16384 + k = a then z.paid k - (-v) else z.paid k) - v else (if 16384 + k = a then z.paid k - (-v) else z.paid k)) ≤ z.lim k
    rw [if_neg (by omega), if_neg (by omega)]
    exact g3
theorem okZ.uLim {n : Nat} {z : Z} (h : okZ n z) {p t : Nat} (hp : p < z.mem.length) (ht : t < z.mem.length) {v m : Int} (hv : -1 ≤ v ∧ v < 1000000000000000) (hm : -((n + 1 : Nat) : Int) ≤ m ∧ m ≤ 2000) : okZ (n + 1) (z.uLim (256 * p + t) v m) := by
  have hu := h.up
  have hmm := h.mem
  refine ⟨hu.mem, hu.cod, hu.ast, hu.acd, hu.fc, hu.tot, hu.pos, hu.beg, hu.wnt, hu.cam, hu.pl, hu.mv, hu.paid, fun k => ?_, hm, hu.ins, hu.oki, hu.unq, hu.tns, hu.turns, hu.tick, hu.out, fun k hk hq => ?_, hu.bank, hu.mpl, hu.crd⟩
  · rw [uLim_lim]
    split
    · exact hv
    · exact h.lim k
  · have hq' : z.mem.length ≤ k / 256 ∨ z.mem.length ≤ k % 256 := hq
    rw [uLim_lim, if_neg (by omega)]
    exact h.outr k hk hq
theorem good.uLim {z : Z} (hG : good z) {k : Nat} {v m : Int} (hv : 0 ≤ v → z.paid k ≤ v) : good (z.uLim k v m) := by
  refine ⟨fun P h1 h2 h3 h4 => ?_, hG.2.1, fun j hj hl => ?_⟩
  · rw [uLim_flr (by omega)]; exact hG.1 P h1 h2 h3 h4
  · rw [uLim_lim] at hl ⊢
    by_cases c : j = k
    · rw [if_pos c] at hl ⊢
      rw [c]; exact hv hl
    · rw [if_neg c] at hl ⊢
      exact hG.2.2 j hj hl
theorem okZ.uPl {n : Nat} {z : Z} (h : okZ n z) {p a : Nat} (hp : p < z.mem.length) (h0 : p ≠ 0) (ha : a < z.ast.length) (hs : z.mny a = false) {v : Int} (hv : 0 ≤ v ∧ v ≤ big (n + 1)) (hc : (z.uPl (64 * p + a) v).all ≤ mostN) : okZ (n + 1) (z.uPl (64 * p + a) v) := by
  have hu := h.up
  have hmm := h.mem
  have hla := h.ast
  refine ⟨hu.mem, hu.cod, hu.ast, hu.acd, hu.fc, hu.tot, hu.pos, hu.beg, hu.wnt, hu.cam, fun P => ?_, hu.mv, hu.paid, hu.lim, hu.lims, hu.ins, hu.oki, hu.unq, hu.tns, hu.turns, hu.tick, fun P hP hq => ?_, hu.outr, fun P hP => ?_, fun P hP hq => ?_, hc⟩
  · rw [uPl_pl]
    split
    · exact hv
    · exact hu.pl P
  · have hq' : z.mem.length ≤ P / 64 ∨ z.ast.length ≤ P % 64 := hq
    rw [uPl_pl, if_neg (by omega)]
    exact h.out P hP hq
  · rw [uPl_pl, if_neg (by omega)]
    exact h.bank P hP
  · rw [uPl_pl]
    have hq' : z.mny (P % 64) = true := hq
    rw [if_neg (fun c => by rw [c, show (64 * p + a) % 64 = a by omega, hs] at hq'; cases hq')]
    exact h.mpl P hP hq'
theorem good.uPl {n : Nat} {z : Z} (h : okZ n z) (hG : good z) {p a : Nat} (h0 : p ≠ 0) (ha : a < z.ast.length) {v : Int} (hv : v ≤ z.pos (64 * p + a)) (hc : ∀ b, z.fc = some b → -((z.uPl (64 * p + a) v).crd p : Int) ≤ z.pos (64 * p + b)) : good (z.uPl (64 * p + a) v) := by
  have hla := h.ast
  refine hG.flr rfl rfl rfl rfl rfl (fun P h1 h2 h3 h4 h5 => flr_fc h2 rfl rfl (fun hf => ?_) (fun c1 c2 => ?_) h5)
  · by_cases c : P / 64 = p
    · rw [c]
      have := hc (P % 64) hf.symm
      rw [show 64 * p + P % 64 = P by omega] at this
      exact this
    · rw [uPl_crd_ne z hla ha v c]
      rw [flr_a h2, if_pos hf] at h5
      exact h5
  · rw [uPl_pl]
    by_cases c : P = 64 * p + a
    · rw [if_pos c, c]; exact hv
    · rw [if_neg c]
      rw [flr_a h2, if_neg c1, c2] at h5; exact h5
theorem uPl_mono {z : Z} (hl : z.ast.length ≤ 64) {p a : Nat} (ha : a < z.ast.length) {x : Ast} (hx : z.ast[a]? = some x) (hm : x.mny = false) {v : Int} : (z.pl (64 * p + a) ≤ v → z.crd p ≤ (z.uPl (64 * p + a) v).crd p) ∧ (v ≤ z.pl (64 * p + a) → (z.uPl (64 * p + a) v).crd p ≤ z.crd p) := by
  have e := uPl_crd z hl (p := p) ha v
  have w1 := uPl_wor1 z p a v hx hm
  have w0 : z.wor p a = wth (z.pl (64 * p + a)).toNat x.prc x.cut := by
    unfold Z.wor
    rw [hx]
    show (if x.mny = true then 0 else _) = _
    rw [hm]; rfl
  refine ⟨fun h => ?_, fun h => ?_⟩
  · have := wth_mono (m := (z.pl (64 * p + a)).toNat) (k := v.toNat) x.prc x.cut (by omega)
    omega
  · have := wth_mono (m := v.toNat) (k := (z.pl (64 * p + a)).toNat) x.prc x.cut (by omega)
    omega
