/-! The greatest set that can settle. -/
def sumC (fc : Option Nat) (C : Ins → Bool) (P : Nat) : List Ins → Int
  | [] => 0
  | i :: q => (if C i then i.net fc P else 0) + sumC fc C P q
theorem sumC_le {fc : Option Nat} {C V : Ins → Bool} {P : Nat} : ∀ {q : List Ins}, (∀ i ∈ q, (if V i then i.net fc P else 0) ≤ (if C i then i.net fc P else 0)) → sumC fc V P q ≤ sumC fc C P q := by
  intro q
  induction q with
  | nil => intro _; exact Int.le_refl _
  | cons i q ih =>
    intro h
    have h1 := h i List.mem_cons_self
    have h2 := ih fun j hj => h j (List.mem_cons_of_mem _ hj)
    show _ + sumC fc V P q ≤ _ + sumC fc C P q
    omega
theorem sumC_eq {fc : Option Nat} {C V : Ins → Bool} {P : Nat} {q : List Ins} (h : ∀ i ∈ q, V i = C i) : sumC fc V P q = sumC fc C P q := by
  apply Int.le_antisymm
  · exact sumC_le fun i hi => by rw [h i hi]; exact Int.le_refl _
  · exact sumC_le fun i hi => by rw [h i hi]; exact Int.le_refl _
theorem sumC_neg {fc : Option Nat} {C : Ins → Bool} {P : Nat} : ∀ {q : List Ins}, sumC fc C P q < 0 → ∃ i ∈ q, C i = true ∧ i.net fc P < 0 := by
  intro q
  induction q with
  | nil => intro h; exact absurd h (Int.lt_irrefl 0)
  | cons i q ih =>
    intro h
    by_cases h1 : C i = true ∧ i.net fc P < 0
    · exact ⟨i, List.mem_cons_self, h1⟩
    · have h2 : sumC fc C P (i :: q) = (if C i then i.net fc P else 0) + sumC fc C P q := rfl
      have h3 : 0 ≤ (if C i then i.net fc P else 0) := by
        split
        · rename_i hc
          exact Int.not_lt.mp fun q => h1 ⟨hc, q⟩
        · exact Int.le_refl _
      obtain ⟨j, hj, hj2⟩ := ih (by omega)
      exact ⟨j, List.mem_cons_of_mem _ hj, hj2⟩
def Z.clsd (z : Z) (q : List Ins) (C : Ins → Bool) : Prop := ∀ j i, j ∈ q → i ∈ q → ahd j i → C i = true → C j = false → ∀ P, ¬ (z.tks j P = true ∧ z.tks i P = true)
def Z.flrd (z : Z) (q : List Ins) (C : Ins → Bool) : Prop := ∀ P, (∃ i ∈ q, C i = true ∧ z.tks i P = true) → z.flr P ≤ z.lev P + sumC z.fc C P q
def Z.vld (z : Z) (q : List Ins) (C : Ins → Bool) : Prop := z.clsd q C ∧ z.flrd q C
/-- every set that can settle lies in C -/
def Z.ub (z : Z) (q : List Ins) (C : Ins → Bool) : Prop := ∀ V, z.vld q V → ∀ i ∈ q, V i = true → C i = true
theorem grt_un {z : Z} {q : List Ins} {C D : Ins → Bool} (h1 : z.vld q C) (h2 : z.ub q C) (h3 : z.vld q D) (h4 : z.ub q D) : ∀ i ∈ q, C i = D i := by
  intro i hi
  have a := h2 D h3 i hi
  have b := h4 C h1 i hi
  cases hc : C i <;> cases hd : D i <;> simp_all
/-- one that may not settle without one that is out -/
theorem ub_close {z : Z} {q : List Ins} {C : Ins → Bool} (hu : z.ub q C) {i j : Ins} {P : Nat} (hj : j ∈ q) (hi : i ∈ q) (ha : ahd j i) (hc : C j = false) (t1 : z.tks j P = true) (t2 : z.tks i P = true) {V : Ins → Bool} (hv : z.vld q V) : V i = false := by
  cases h : V i with
  | false => rfl
  | true =>
    exfalso
    have hvj : V j = false := by
      cases h' : V j with
      | false => rfl
      | true => rw [hu V hv j hj h'] at hc; cases hc
    exact hv.1 j i hj hi ha h hvj P ⟨t1, t2⟩
/-- the last that takes from a place that falls too low -/
theorem ub_short {z : Z} {q : List Ins} (hp : q.Pairwise ahd) {C : Ins → Bool} (hu : z.ub q C) {P : Nat} (hf : z.fld P = true) (hs : ¬ z.flr P ≤ z.lev P + sumC z.fc C P q) {i : Ins} (hi : i ∈ q) (ht : i.net z.fc P < 0) (hl : ∀ j ∈ q, ahd i j → C j = true → ¬ j.net z.fc P < 0) {V : Ins → Bool} (hv : z.vld q V) : V i = false := by
  cases h : V i with
  | false => rfl
  | true =>
    exfalso
    have htk : z.tks i P = true := tks_iff.mpr ⟨ht, hf⟩
    have h1 := hv.2 P ⟨i, hi, h, htk⟩
    have h2 : sumC z.fc V P q ≤ sumC z.fc C P q := by
      refine sumC_le fun j hj => ?_
      by_cases hvj : V j = true
      · rw [if_pos hvj, if_pos (hu V hv j hj hvj)]; exact Int.le_refl _
      · rw [if_neg hvj]
        by_cases hcj : C j = true
        · rw [if_pos hcj]
          refine Int.not_lt.mp fun hn => ?_
          have htj : z.tks j P = true := tks_iff.mpr ⟨hn, hf⟩
          have hne : j ≠ i := fun e => hvj (by rw [e]; exact h)
          -- one of the two is ahead
          have : ahd j i ∨ ahd i j := by
            obtain ⟨x, hx, ex⟩ := List.mem_iff_getElem.mp hj
            obtain ⟨y, hy, ey⟩ := List.mem_iff_getElem.mp hi
            have hpp := List.pairwise_iff_getElem.mp hp
            rcases Nat.lt_trichotomy x y with w | w | w
            · left; rw [← ex, ← ey]; exact hpp x y hx hy w
            · subst w; exact absurd (ex.symm.trans ey) hne
            · right; rw [← ex, ← ey]; exact hpp y x hy hx w
          rcases this with w | w
          · exact hv.1 j i hj hi w h (by simpa using hvj) P ⟨htj, htk⟩
          · exact hl j hj w hcj hn
        · rw [if_neg hcj]; exact Int.le_refl _
    omega
theorem ub_all {z : Z} {q : List Ins} {C : Ins → Bool} (h : ∀ i ∈ q, C i = true) : z.ub q C := fun _ _ i hi _ => h i hi
/-- settles the chosen -/
def stlL (z : Z) (g : List Ins) : Z := g.foldl Z.stl z
def movs (z : Z) (g : List Ins) : Z := g.foldl Z.mov z
theorem movs_fc (g : List Ins) : ∀ z : Z, (movs z g).fc = z.fc := by
  induction g with
  | nil => intro z; rfl
  | cons i g ih => intro z; exact ih (z.mov i)
def same (z z' : Z) : Prop := (z'.mem = z.mem) ∧ (z'.ast = z.ast) ∧ (z'.fc = z.fc) ∧ (z'.pl = z.pl) ∧ (z'.beg = z.beg) ∧ (z'.lim = z.lim) ∧ (z'.lims = z.lims) ∧ (z'.txs = z.txs) ∧ (z'.turns = z.turns) ∧ (z'.tick = z.tick)
theorem same.mem {z z' : Z} (h : same z z') : z'.mem = z.mem := h.1
theorem same.ast {z z' : Z} (h : same z z') : z'.ast = z.ast := h.2.1
theorem same.fc {z z' : Z} (h : same z z') : z'.fc = z.fc := h.2.2.1
theorem same.pl {z z' : Z} (h : same z z') : z'.pl = z.pl := h.2.2.2.1
theorem same.beg {z z' : Z} (h : same z z') : z'.beg = z.beg := h.2.2.2.2.1
theorem same.lim {z z' : Z} (h : same z z') : z'.lim = z.lim := h.2.2.2.2.2.1
theorem same.lims {z z' : Z} (h : same z z') : z'.lims = z.lims := h.2.2.2.2.2.2.1
theorem same.txs {z z' : Z} (h : same z z') : z'.txs = z.txs := h.2.2.2.2.2.2.2.1
theorem same.turns {z z' : Z} (h : same z z') : z'.turns = z.turns := h.2.2.2.2.2.2.2.2.1
theorem same.tick {z z' : Z} (h : same z z') : z'.tick = z.tick := h.2.2.2.2.2.2.2.2.2
theorem same.tr {z z1 z2 : Z} (h1 : same z z1) (h2 : same z1 z2) : same z z2 := ⟨h2.mem.trans h1.mem, h2.ast.trans h1.ast, h2.fc.trans h1.fc, h2.pl.trans h1.pl, h2.beg.trans h1.beg, h2.lim.trans h1.lim, h2.lims.trans h1.lims, h2.txs.trans h1.txs, h2.turns.trans h1.turns, h2.tick.trans h1.tick⟩
theorem same.rf (z : Z) : same z z := ⟨rfl, rfl, rfl, rfl, rfl, rfl, rfl, rfl, rfl, rfl⟩
theorem same_stl (z : Z) (i : Ins) : same z (z.stl i) := ⟨rfl, rfl, rfl, rfl, rfl, rfl, rfl, rfl, rfl, rfl⟩
theorem same_stls (g : List Ins) : ∀ z : Z, same z (stlL z g) := by
  induction g with
  | nil => intro z; exact same.rf z
  | cons i g ih => intro z; exact (same_stl z i).tr (ih (z.stl i))
theorem same_setl : ∀ (n : Nat) (z : Z) (q : List Ins), same z (setl n z q).1 := by
  intro n
  induction n with
  | zero => intro z q; exact same.rf z
  | succ n ih =>
    intro z q
    cases h : z.fst (fun _ => false) q with
    | none => rw [setl_none h]; exact same.rf z
    | some i => rw [setl_some h]; exact (same_stl z i).tr (ih _ _)
theorem stls_ins (g : List Ins) : ∀ z : Z, (stlL z g).ins = z.ins.filter fun j => !(g.any fun i => sameK i j) := by
  induction g with
  | nil => intro z; show z.ins = _; symm; rw [List.filter_eq_self]; intro j _; rfl
  | cons i g ih =>
    intro z
    show (stlL (z.stl i) g).ins = _
    rw [ih]
    show (z.ins.filter fun j => !(sameK i j)).filter _ = _
    rw [List.filter_filter]
    refine List.filter_congr fun j _ => ?_
    rw [List.any_cons]
    cases sameK i j <;> simp
theorem stls_pos (g : List Ins) : ∀ z : Z, ∀ P, (stlL z g).pos P = z.pos P + sumC z.fc (fun _ => true) P g := by
  induction g with
  | nil => intro z P; show z.pos P = z.pos P + 0; omega
  | cons i g ih =>
    intro z P
    show (stlL (z.stl i) g).pos P = _
    rw [ih]
    show (z.pos P + i.net z.fc P) + sumC z.fc (fun _ => true) P g = z.pos P + ((if true = true then i.net z.fc P else 0) + sumC z.fc (fun _ => true) P g)
    rw [if_pos rfl]; omega
theorem stls_paid (g : List Ins) : ∀ z : Z, ∀ k, (stlL z g).paid k = z.paid k - sumC z.fc (fun _ => true) (16384 + k) g := by
  induction g with
  | nil => intro z k; show z.paid k = z.paid k - 0; omega
  | cons i g ih =>
    intro z k
    show (stlL (z.stl i) g).paid k = _
    rw [ih]
    show (z.paid k - i.net z.fc (16384 + k)) - sumC z.fc (fun _ => true) (16384 + k) g = z.paid k - ((if true = true then i.net z.fc (16384 + k) else 0) + sumC z.fc (fun _ => true) (16384 + k) g)
    rw [if_pos rfl]; omega
theorem sumC_filter (fc : Option Nat) (C : Ins → Bool) (P : Nat) : ∀ q : List Ins, sumC fc (fun _ => true) P (q.filter C) = sumC fc C P q := by
  intro q
  induction q with
  | nil => rfl
  | cons i q ih =>
    by_cases h : C i = true
    · rw [List.filter_cons_of_pos h]
      show (if true = true then i.net fc P else 0) + sumC fc _ P (q.filter C) = (if C i then i.net fc P else 0) + sumC fc C P q
      rw [if_pos rfl, if_pos h, ih]
    · rw [List.filter_cons_of_neg h, ih]
      show _ = (if C i then i.net fc P else 0) + sumC fc C P q
      rw [if_neg h]; omega
theorem okZ.stls {n : Nat} : ∀ (g : List Ins) {z : Z}, okZ n z → (∀ i ∈ g, i ∈ z.ins) → g.Pairwise (fun i j => ¬ (i.who = j.who ∧ i.nm = j.nm)) → okZ n (stlL z g) := by
  intro g
  induction g with
  | nil => intro z h _ _; exact h
  | cons i g ih =>
    intro z h hm hp
    obtain ⟨p1, p2⟩ := List.pairwise_cons.mp hp
    refine ih (h.stl (hm i List.mem_cons_self)) (fun j hj => ?_) p2
    show j ∈ z.ins.filter _
    rw [List.mem_filter]
    refine ⟨hm j (List.mem_cons_of_mem _ hj), ?_⟩
    have := p1 j hj
    simp [sameK, this]
theorem q_unq {n : Nat} {z : Z} (hO : okQ n z) {q : List Ins} (hq : z.isq q) : q.Pairwise (fun i j => ¬ (i.who = j.who ∧ i.nm = j.nm)) := by
  refine hq.1.imp_of_mem fun {i j} hi hj ha => ?_
  intro hk
  have mi := ((hq.2 i).mp hi).1
  have mj := ((hq.2 j).mp hj).1
  obtain ⟨x, hx, ex⟩ := List.mem_iff_getElem.mp mi
  obtain ⟨y, hy, ey⟩ := List.mem_iff_getElem.mp mj
  have hpp := List.pairwise_iff_getElem.mp hO.unq
  rcases Nat.lt_trichotomy x y with w | w | w
  · exact hpp x y hx hy w (by rw [ex, ey]; exact hk)
  · subst w
    have : i = j := ex.symm.trans ey
    subst this
    exact ahd_ir ha ha
  · exact hpp y x hy hx w (by rw [ex, ey]; exact ⟨hk.1.symm, hk.2.symm⟩)
theorem good.stls {n : Nat} {z : Z} (hO : okZ n z) (hG : good z) {q : List Ins} (hq : z.isq q) {C : Ins → Bool} (hv : z.vld q C) : good (stlL z (q.filter C)) := by
  have hS := same_stls (q.filter C) z
  have hX := hO.x
  have hm := hO.mem
  have hal := hO.ast
  have crd_eq : ∀ p, (stlL z (q.filter C)).crd p = z.crd p := fun p => by
    unfold Z.crd Z.wor
    rw [hS.ast, hS.pl]
  have flr_eq : ∀ P, (stlL z (q.filter C)).flr P = z.flr P := fun P => by
    unfold Z.flr Z.mny
    rw [crd_eq, hS.fc, hS.ast, hS.pl, hS.lim]
  have tk : ∀ P, z.fld P = true → sumC z.fc C P q < 0 → z.flr P ≤ z.lev P + sumC z.fc C P q := fun P hf hn => by
    obtain ⟨i, hi, h1, h2⟩ := sumC_neg hn
    exact hv.2 P ⟨i, hi, h1, tks_iff.mpr ⟨h2, hf⟩⟩
  refine ⟨?_, ?_, ?_⟩
  · intro P h1 h2 h3 h4
    rw [hS.mem] at h3
    rw [hS.ast] at h4
    rw [flr_eq, stls_pos, sumC_filter]
    have hg := hG.flo P h1 h2 h3 h4
    by_cases hn : sumC z.fc C P q < 0
    · have hf : z.fld P = true := by unfold Z.fld; rw [if_pos h2]; exact decide_eq_true h1
      have := tk P hf hn
      unfold Z.lev at this
      rw [if_pos h2] at this
      exact this
    · omega
  · intro a ha
    rw [hS.ast] at ha
    rw [hS.mem, sumZ_cong (fun p _ => stls_pos _ z _), sumZ_add, hG.sum a ha]
    have : ∀ g : List Ins, (∀ i ∈ g, okI z i) → sumZ (fun p => sumC z.fc (fun _ => true) (64 * p + a) g) z.mem.length = 0 := by
      intro g
      induction g with
      | nil => intro _; exact sumZ_0 fun _ _ => rfl
      | cons i g ih =>
        intro hg
        rw [sumZ_cong (f := fun p => sumC z.fc (fun _ => true) (64 * p + a) (i :: g)) (g := fun p => i.net z.fc (64 * p + a) + sumC z.fc (fun _ => true) (64 * p + a) g) (fun p _ => by show (if true = true then i.net z.fc (64 * p + a) else 0) + _ = _; rw [if_pos rfl]), sumZ_add, ih fun j hj => hg j (List.mem_cons_of_mem _ hj), show sumZ (fun p => i.net z.fc (64 * p + a)) z.mem.length = 0 from net_sum hX (by omega) hm.2 (Nat.le_refl _) (hg i List.mem_cons_self).lg]; rfl
    rw [this _ fun i hi => hO.oki i ((hq.2 i).mp (List.mem_filter.mp hi).1).1]; rfl
  · intro k hk h0
    rw [hS.lim] at h0 ⊢
    rw [stls_paid, sumC_filter]
    have hg := hG.lim k hk h0
    by_cases hn : sumC z.fc C (16384 + k) q < 0
    · have hf : z.fld (16384 + k) = true := by rw [fld_room]; exact decide_eq_true h0
      have := tk _ hf hn
      unfold Z.lev Z.flr at this
      rw [if_neg (by omega), if_neg (by omega), Nat.add_sub_cancel_left] at this
      omega
    · omega
theorem isq.stls {n : Nat} {z : Z} (hO : okQ n z) {q : List Ins} (hq : z.isq q) (C : Ins → Bool) : (stlL z (q.filter C)).isq (q.filter fun i => !(C i)) := by
  have hu := q_unq hO hq
  refine ⟨hq.1.filter _, fun i => ?_⟩
  rw [stls_ins, List.mem_filter, List.mem_filter, hq.2]
  have key : i ∈ z.ins ∧ i.wt = true → ((!(C i)) = true ↔ (!((q.filter C).any fun j => sameK j i)) = true) := by
    intro hi
    have hiq := (hq.2 i).mpr hi
    rw [Bool.not_eq_true', Bool.not_eq_true', List.any_eq_false]
    constructor
    · intro hc j hj hs
      obtain ⟨j1, j2⟩ := List.mem_filter.mp hj
      have hs' : j.who = i.who ∧ j.nm = i.nm := of_decide_eq_true hs
      have : j = i := by
        obtain ⟨x, hx, ex⟩ := List.mem_iff_getElem.mp j1
        obtain ⟨y, hy, ey⟩ := List.mem_iff_getElem.mp hiq
        have hpp := List.pairwise_iff_getElem.mp hu
        rcases Nat.lt_trichotomy x y with w | w | w
        · exact absurd (by rw [ex, ey]; exact hs') (hpp x y hx hy w)
        · subst w; exact ex.symm.trans ey
        · exact absurd (by rw [ex, ey]; exact ⟨hs'.1.symm, hs'.2.symm⟩) (hpp y x hy hx w)
      rw [this, hc] at j2
      cases j2
    · intro h
      cases hc : C i with
      | false => rfl
      | true => exact absurd (show sameK i i = true by simp [sameK]) (h i (List.mem_filter.mpr ⟨hiq, hc⟩))
  constructor
  · rintro ⟨h1, h2⟩; exact ⟨⟨h1.1, (key h1).mp h2⟩, h1.2⟩
  · rintro ⟨⟨h1, h2⟩, h3⟩; exact ⟨⟨h1, h3⟩, (key ⟨h1, h3⟩).mpr h2⟩
