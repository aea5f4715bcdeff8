/-! Settling keeps shape, bounds and what never breaks. -/
theorem sumL_erase {α : Type} (f : α → Nat) : ∀ {L : List α} {k : Nat} {i : α}, L[k]? = some i → (L.map f).sum = ((L.eraseIdx k).map f).sum + f i := by
  intro L
  induction L with
  | nil => intro k i h; simp at h
  | cons x L ih =>
    intro k i h
    cases k with
    | zero => cases h; rw [List.eraseIdx_cons_zero, List.map_cons, List.sum_cons]; omega
    | succ k =>
      have h' : L[k]? = some i := h
      rw [List.eraseIdx_cons_succ, List.map_cons, List.sum_cons, List.map_cons, List.sum_cons, ih h']; omega
theorem netL_tot (fc : Option Nat) (P : Nat) : ∀ (ls : List Leg), -(((ls.map Leg.v).sum : Nat) : Int) ≤ netL fc P ls ∧ netL fc P ls ≤ (((ls.map Leg.v).sum : Nat) : Int) := by
  intro ls
  induction ls with
  | nil => exact ⟨Int.le_refl _, Int.le_refl _⟩
  | cons l ls ih =>
    rw [netL_cons, List.map_cons, List.sum_cons]
    have h3 : -(l.v : Int) ≤ legN fc P l ∧ legN fc P l ≤ l.v := by
      unfold legN
      repeat' split
      all_goals omega
    omega
theorem net_tot (i : Ins) (fc : Option Nat) (P : Nat) : -(i.tot : Int) ≤ i.net fc P ∧ i.net fc P ≤ i.tot := netL_tot fc P i.legs
theorem pls_in {z : Z} (hX : okX z) {i : Ins} (hl : ∀ l ∈ i.legs, okL z l) {P : Nat} (h : P ∈ i.pls z.fc) : (P < 16384 ∧ 64 ≤ P ∧ P / 64 < z.mem.length ∧ P % 64 < z.ast.length) ∨ (16384 ≤ P ∧ P < 81920 ∧ (P - 16384) / 256 < z.mem.length ∧ (P - 16384) % 256 < z.mem.length) := by
  obtain ⟨l, h1, h2⟩ := List.mem_flatMap.mp h
  obtain ⟨o1, o2, o3, o4, o5, o6, o7, o8⟩ := hl l h1
  have hx1 := hX.mem
  have hx2 := hX.ast
  rcases legP_mem.mp h2 with h | h | ⟨-, h | h⟩
  · left; omega
  · left; omega
  · right; omega
  · right; omega
theorem ins_ix {z : Z} {i : Ins} (h : i ∈ z.ins) : ∃ k : Nat, z.ins[k]? = some i := List.mem_iff_getElem?.mp h
theorem okZ.stl {n : Nat} {z : Z} (hO : okZ n z) {i : Ins} (hi : i ∈ z.ins) : okZ n (z.stl i) := by
  obtain ⟨k, hk⟩ := ins_ix hi
  have hkl : k < z.ins.length := (List.getElem?_eq_some_iff.mp hk).1
  have hok := hO.oki i hi
  have hX := hO.x
  have he := erase_filter hO.unq hk
  have hins : (z.stl i).ins = z.ins.eraseIdx k := he.symm
  have hlen : (z.stl i).ins.length = z.ins.length - 1 := by rw [hins, List.length_eraseIdx, if_pos hkl]
  have htot : z.tot = (z.stl i).tot + i.tot := by
    show (z.ins.map Ins.tot).sum = ((z.stl i).ins.map Ins.tot).sum + i.tot
    rw [hins]; exact sumL_erase Ins.tot hk
  have hsub : ∀ j ∈ (z.stl i).ins, j ∈ z.ins := fun j hj => (List.mem_filter.mp hj).1
  have hnet : ∀ P, i.net z.fc P ≠ 0 → P ∈ i.pls z.fc := fun P h => net_mem h
  have ht : ((z.stl i).tot : Int) = z.tot - i.tot := by omega
  refine ⟨hO.mem, hO.cod, hO.ast, hO.acd, hO.fc, ?_, ?_, hO.beg, ?_, ?_, hO.pl, ?_, ?_, hO.lim, hO.lims, by have := hO.ins; omega, ?_, hO.unq.filter _, hO.tns.filter _, hO.turns, hO.tick, ?_, ?_, hO.bank, hO.mpl, hO.crd⟩
  · have := hO.tot; omega
  · intro P
    have h1 := hO.pos P
    have h2 := net_tot i z.fc P
    show -(big n) ≤ (z.pos P + i.net z.fc P) - ((z.stl i).tot : Int) ∧ (z.pos P + i.net z.fc P) + ((z.stl i).tot : Int) ≤ big n
    omega
  · intro P
    have h1 := hO.wnt P
    have h2 := net_tot i z.fc P
    show 0 ≤ (if i.net z.fc P < 0 then z.wnt P - i.net z.fc P else z.wnt P) ∧ (if i.net z.fc P < 0 then z.wnt P - i.net z.fc P else z.wnt P) + ((z.stl i).tot : Int) ≤ big n
    split <;> omega
  · intro P
    have h1 := hO.cam P
    have h2 := net_tot i z.fc P
    show 0 ≤ (if 0 < i.net z.fc P then z.cam P + i.net z.fc P else z.cam P) ∧ (if 0 < i.net z.fc P then z.cam P + i.net z.fc P else z.cam P) + ((z.stl i).tot : Int) ≤ big n
    split <;> omega
  · intro P
    have h1 := hO.mv P
    show (if i.net z.fc P = 0 then z.mv P else z.mv P + 1) + (z.stl i).ins.length ≤ n
    split <;> omega
  · intro q
    have h1 := hO.paid q
    have h2 := net_tot i z.fc (16384 + q)
    show -(big n) ≤ (z.paid q - i.net z.fc (16384 + q)) - ((z.stl i).tot : Int) ∧ (z.paid q - i.net z.fc (16384 + q)) + ((z.stl i).tot : Int) ≤ big n
    omega
  · intro j hj
    obtain ⟨a1, a2, a3, a4, a5, a6⟩ := hO.oki j (hsub j hj)
    exact ⟨a1, a2, a3, a4, a5, fun l hl => ⟨(a6 l hl).f, (a6 l hl).t, (a6 l hl).a, (a6 l hl).f0, (a6 l hl).t0, (a6 l hl).ft, (a6 l hl).v0, (a6 l hl).v⟩⟩
  · intro P hP ho
    have h0 : i.net z.fc P = 0 := Decidable.byContradiction fun hn => by
      rcases pls_in hX hok.lg (hnet P hn) with h | h
      · have ho' : z.mem.length ≤ P / 64 ∨ z.ast.length ≤ P % 64 := ho
        omega
      · omega
    obtain ⟨a1, a2, a3, a4, a5, a6⟩ := hO.out P hP ho
    refine ⟨?_, a2, a3, ?_, ?_, ?_⟩
    · show z.pos P + i.net z.fc P = 0
      omega
    · show (if i.net z.fc P < 0 then z.wnt P - i.net z.fc P else z.wnt P) = 0
      rw [if_neg (by omega)]; exact a4
    · show (if 0 < i.net z.fc P then z.cam P + i.net z.fc P else z.cam P) = 0
      rw [if_neg (by omega)]; exact a5
    · show (if i.net z.fc P = 0 then z.mv P else z.mv P + 1) = 0
      rw [if_pos h0]; exact a6
  · intro q hq ho
    have h0 : i.net z.fc (16384 + q) = 0 := Decidable.byContradiction fun hn => by
      rcases pls_in hX hok.lg (hnet _ hn) with h | h
      · omega
      · have ho' : z.mem.length ≤ q / 256 ∨ z.mem.length ≤ q % 256 := ho
        rw [Nat.add_sub_cancel_left] at h
        omega
    obtain ⟨a1, a2⟩ := hO.outr q hq ho
    refine ⟨?_, a2⟩
    show z.paid q - i.net z.fc (16384 + q) = 0
    omega
theorem sumZ_add (f g : Nat → Int) : ∀ n, sumZ (fun p => f p + g p) n = sumZ f n + sumZ g n := by
  intro n
  induction n with
  | zero => rfl
  | succ n ih =>
    show sumZ _ n + (f n + g n) = (sumZ f n + f n) + (sumZ g n + g n)
    rw [ih]; omega
theorem sumZ_0 {f : Nat → Int} : ∀ {n : Nat}, (∀ p, p < n → f p = 0) → sumZ f n = 0 := by
  intro n
  induction n with
  | zero => intro _; rfl
  | succ n ih =>
    intro h
    show sumZ f n + f n = 0
    rw [ih (fun p hp => h p (by omega)), h n (by omega)]; rfl
theorem sumZ_cong {f g : Nat → Int} : ∀ {n : Nat}, (∀ p, p < n → f p = g p) → sumZ f n = sumZ g n := by
  intro n
  induction n with
  | zero => intro _; rfl
  | succ n ih =>
    intro h
    show sumZ f n + f n = sumZ g n + g n
    rw [ih (fun p hp => h p (by omega)), h n (by omega)]
theorem sumZ_one (x : Nat) (v : Int) : ∀ n, sumZ (fun p => if p = x then v else 0) n = if x < n then v else 0 := by
  intro n
  induction n with
  | zero => rw [if_neg (by omega)]; rfl
  | succ n ih =>
    show sumZ _ n + (if n = x then v else 0) = _
    rw [ih]
    by_cases h1 : x < n
    · rw [if_pos h1, if_neg (by omega), if_pos (by omega)]; omega
    · by_cases h2 : n = x
      · rw [if_neg h1, if_pos h2, if_pos (by omega)]; omega
      · rw [if_neg h1, if_neg h2, if_neg (by omega)]; rfl
theorem legN_sum {z : Z} (hX : okX z) {l : Leg} (ho : okL z l) {a : Nat} (ha : a < 64) {m : Nat} (hm : m ≤ 256) (hml : z.mem.length ≤ m) : sumZ (fun p => legN z.fc (64 * p + a) l) m = 0 := by
  obtain ⟨o1, o2, o3, o4, o5, o6, o7, o8⟩ := ho
  by_cases h : l.a = a
  · have e : sumZ (fun p => legN z.fc (64 * p + a) l) m = sumZ (fun p => (if p = l.t then (l.v : Int) else 0) + (if p = l.f then -(l.v : Int) else 0)) m := by
      refine sumZ_cong fun p hp => ?_
      unfold legN
      rw [if_pos (by omega), if_pos (by omega), show (64 * p + a) / 64 = p by omega]
      by_cases h1 : l.t = p
      · rw [if_pos h1, if_pos h1.symm, if_neg (show ¬ p = l.f by omega)]; omega
      · rw [if_neg h1, if_neg (show ¬ p = l.t by omega)]
        by_cases h2 : l.f = p
        · rw [if_pos h2, if_pos h2.symm]; omega
        · rw [if_neg h2, if_neg (show ¬ p = l.f by omega)]; rfl
    rw [e, sumZ_add, sumZ_one, sumZ_one, if_pos (by omega), if_pos (by omega)]; omega
  · refine sumZ_0 fun p hp => ?_
    unfold legN
    rw [if_pos (by omega), if_neg (by omega)]
theorem net_sum {z : Z} (hX : okX z) {a : Nat} (ha : a < 64) {m : Nat} (hm : m ≤ 256) (hml : z.mem.length ≤ m) : ∀ {ls : List Leg}, (∀ l ∈ ls, okL z l) → sumZ (fun p => netL z.fc (64 * p + a) ls) m = 0 := by
  intro ls
  induction ls with
  | nil => intro _; exact sumZ_0 fun _ _ => rfl
  | cons l ls ih =>
    intro hl
    rw [sumZ_cong (g := fun p => legN z.fc (64 * p + a) l + netL z.fc (64 * p + a) ls) (fun p _ => netL_cons ..), sumZ_add, legN_sum hX (hl l List.mem_cons_self) ha hm hml, ih (fun x hx => hl x (List.mem_cons_of_mem _ hx))]; rfl
/-- moves that keep the floors -/
theorem good.mov {n : Nat} {z : Z} (hO : okZ n z) (hG : good z) {i : Ins} (hok : okI z i) (hc : ∀ P, z.tks i P = true → z.flr P ≤ z.lev P + i.net z.fc P) : good (z.mov i) := by
  have hX := hO.x
  have hm := hO.mem
  have hl := hO.ast
  refine ⟨?_, ?_, ?_⟩
  · intro P h1 h2 h3 h4
    show z.flr P ≤ z.pos P + i.net z.fc P
    have hg := hG.flo P h1 h2 h3 h4
    by_cases hn : i.net z.fc P < 0
    · have hf : z.fld P = true := by unfold Z.fld; rw [if_pos h2]; exact decide_eq_true h1
      have := hc P (tks_iff.mpr ⟨hn, hf⟩)
      unfold Z.lev at this
      rw [if_pos h2] at this
      exact this
    · omega
  · intro a ha
    have ha' : a < z.ast.length := ha
    show sumZ (fun p => z.pos (64 * p + a) + i.net z.fc (64 * p + a)) z.mem.length = 0
    rw [sumZ_add, hG.sum a ha, show sumZ (fun p => i.net z.fc (64 * p + a)) z.mem.length = 0 from net_sum hX (by omega) hm.2 (Nat.le_refl _) hok.lg]; rfl
  · intro q hq h0
    show z.paid q - i.net z.fc (16384 + q) ≤ z.lim q
    have hg := hG.lim q hq h0
    by_cases hn : i.net z.fc (16384 + q) < 0
    · have hf : z.fld (16384 + q) = true := by rw [fld_room]; exact decide_eq_true h0
      have := hc _ (tks_iff.mpr ⟨hn, hf⟩)
      unfold Z.lev Z.flr at this
      rw [if_neg (by omega), if_neg (by omega), Nat.add_sub_cancel_left] at this
      omega
    · omega
theorem good.stl {n : Nat} {z : Z} (hO : okZ n z) (hG : good z) {i : Ins} (hi : i ∈ z.ins) {m : Nat → Bool} (hc : z.can m i = true) : good (z.stl i) := by
  have := good.mov hO hG (hO.oki i hi) (fun P h => (can_iff.mp hc P h).2)
  exact ⟨this.flo, this.sum, this.lim⟩
theorem fst_mem {z : Z} : ∀ {q : List Ins} {m : Nat → Bool} {i : Ins}, z.fst m q = some i → i ∈ q ∧ ∃ m', z.can m' i = true := by
  intro q
  induction q with
  | nil => intro m i h; cases h
  | cons x q ih =>
    intro m i h
    unfold Z.fst at h
    by_cases hc : z.can m x = true
    · rw [if_pos hc] at h; cases h; exact ⟨List.mem_cons_self, m, hc⟩
    · rw [if_neg hc] at h
      obtain ⟨h1, h2⟩ := ih h
      exact ⟨List.mem_cons_of_mem _ h1, h2⟩
theorem isq.del {z : Z} {q : List Ins} (h : z.isq q) (i : Ins) : (z.stl i).isq (q.filter fun j => !(sameK i j)) := by
  refine ⟨h.1.filter _, fun j => ?_⟩
  show j ∈ q.filter _ ↔ j ∈ z.ins.filter _ ∧ _
  rw [List.mem_filter, List.mem_filter, h.2]
  constructor
  · rintro ⟨⟨h1, h2⟩, h3⟩; exact ⟨⟨h1, h3⟩, h2⟩
  · rintro ⟨⟨h1, h3⟩, h2⟩; exact ⟨⟨h1, h2⟩, h3⟩
theorem isq.un {z : Z} {q r : List Ins} (h1 : z.isq q) (h2 : z.isq r) : q = r := by
  obtain ⟨a1, b1⟩ := h1
  obtain ⟨a2, b2⟩ := h2
  have hm : ∀ i, i ∈ q ↔ i ∈ r := fun i => (b1 i).trans (b2 i).symm
  clear b1 b2
  induction q generalizing r with
  | nil =>
    cases r with
    | nil => rfl
    | cons y r => exact absurd ((hm y).mpr List.mem_cons_self) (by simp)
  | cons x q ih =>
    cases r with
    | nil => exact absurd ((hm x).mp List.mem_cons_self) (by simp)
    | cons y r =>
      obtain ⟨c1, d1⟩ := List.pairwise_cons.mp a1
      obtain ⟨c2, d2⟩ := List.pairwise_cons.mp a2
      have hxy : x = y := by
        rcases List.mem_cons.mp ((hm x).mp List.mem_cons_self) with h | h
        · exact h
        · rcases List.mem_cons.mp ((hm y).mpr List.mem_cons_self) with h' | h'
          · exact h'.symm
          · exact absurd (ahd_ir (c1 y h') (c2 x h)) (by simp)
      subst hxy
      rw [ih d1 d2 fun i => ?_]
      have := hm i
      rw [List.mem_cons, List.mem_cons] at this
      constructor
      · intro h
        rcases this.mp (Or.inr h) with e | e
        · exact absurd (ahd_ir (c1 i h) (by rw [e]; rw [e] at h; exact c1 _ h)) (by simp)
        · exact e
      · intro h
        rcases this.mpr (Or.inr h) with e | e
        · exact absurd (ahd_ir (c2 i h) (by rw [e]; rw [e] at h; exact c2 _ h)) (by simp)
        · exact e
/-- settles one after the other -/
def setl : Nat → Z → List Ins → Z × List Ins × List Ins
  | 0, z, q => (z, q, [])
  | n + 1, z, q => match z.fst (fun _ => false) q with
    | none => (z, q, [])
    | some i => ((setl n (z.stl i) (q.filter fun j => !(sameK i j))).1, (setl n (z.stl i) (q.filter fun j => !(sameK i j))).2.1, i :: (setl n (z.stl i) (q.filter fun j => !(sameK i j))).2.2)
theorem setl_none {n : Nat} {z : Z} {q : List Ins} (h : z.fst (fun _ => false) q = none) : setl n z q = (z, q, []) := by
  cases n with
  | zero => rfl
  | succ n => unfold setl; rw [h]
theorem setl_some {n : Nat} {z : Z} {q : List Ins} {i : Ins} (h : z.fst (fun _ => false) q = some i) : setl (n + 1) z q = ((setl n (z.stl i) (q.filter fun j => !(sameK i j))).1, (setl n (z.stl i) (q.filter fun j => !(sameK i j))).2.1, i :: (setl n (z.stl i) (q.filter fun j => !(sameK i j))).2.2) := by
  conv => lhs; unfold setl
  rw [h]
theorem filter_lt {q : List Ins} {i : Ins} (h : i ∈ q) : (q.filter fun j => !(sameK i j)).length < q.length := by
  have h1 : (q.filter fun j => !(sameK i j)).length ≠ q.length := fun e => by
    have := List.length_filter_eq_length_iff.mp e i h
    simp [sameK] at this
  have := List.length_filter_le (fun j => !(sameK i j)) q
  omega
