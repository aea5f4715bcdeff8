/-! Those that may not settle without one that is out. -/
def Z.hit (z : Z) (m : Nat → Bool) (i : Ins) : Bool := (i.pls z.fc).any fun P => z.tks i P && m P
theorem hit_iff {z : Z} {m : Nat → Bool} {i : Ins} : z.hit m i = true ↔ ∃ P, z.tks i P = true ∧ m P = true := by
  unfold Z.hit
  rw [List.any_eq_true]
  constructor
  · rintro ⟨P, -, h⟩
    rw [Bool.and_eq_true] at h
    exact ⟨P, h⟩
  · rintro ⟨P, h1, h2⟩
    exact ⟨P, net_mem (by have := (tks_iff.mp h1).1; omega), by rw [h1, h2]; rfl⟩
def out1 (C : Ins → Bool) (i : Ins) : Ins → Bool := fun x => C x && !(sameK i x)
def cloF (z : Z) : (Nat → Bool) → (Ins → Bool) → List Ins → (Ins → Bool)
  | _, C, [] => C
  | m, C, i :: q => if (C i && !(z.hit m i)) = true then cloF z m C q else cloF z (z.mrk m i) (out1 C i) q
theorem out1_le {C : Ins → Bool} {i x : Ins} (h : out1 C i x = true) : C x = true := by
  unfold out1 at h
  rw [Bool.and_eq_true] at h
  exact h.1
theorem out1_i (C : Ins → Bool) (i : Ins) : out1 C i i = false := by
  unfold out1
  simp [sameK]
theorem out1_ne {C : Ins → Bool} {i x : Ins} (h : ¬ (i.who = x.who ∧ i.nm = x.nm)) : out1 C i x = C x := by
  unfold out1 sameK
  rw [decide_eq_false h]; simp
theorem cloF_le {z : Z} : ∀ {q : List Ins} {m : Nat → Bool} {C : Ins → Bool} {x : Ins}, cloF z m C q x = true → C x = true := by
  intro q
  induction q with
  | nil => intro m C x h; exact h
  | cons i q ih =>
    intro m C x h
    unfold cloF at h
    split at h
    · exact ih h
    · exact out1_le (ih h)
theorem cloF_prop {z : Z} {q : List Ins} (hp : q.Pairwise ahd) (hu : q.Pairwise (fun i j => ¬ (i.who = j.who ∧ i.nm = j.nm))) : ∀ (r p : List Ins) (m : Nat → Bool) (C : Ins → Bool), q = p ++ r → (∀ P, m P = true ↔ ∃ x ∈ p, C x = false ∧ z.tks x P = true) → (∀ x ∈ p, ∀ y ∈ p, ahd y x → C x = true → C y = false → ∀ P, ¬ (z.tks y P = true ∧ z.tks x P = true)) → z.ub q C → z.clsd q (cloF z m C r) ∧ z.ub q (cloF z m C r) := by
  intro r
  induction r with
  | nil =>
    intro p m C hq ha hb hc
    rw [List.append_nil] at hq
    refine ⟨fun j i hj hi hji hci hcj P => ?_, hc⟩
    rw [hq] at hj hi
    exact hb i hi j hj hji hci hcj P
  | cons i r ih =>
    intro p m C hq ha hb hc
    have hq' : q = (p ++ [i]) ++ r := by rw [hq]; simp
    have hiq : i ∈ q := by rw [hq]; simp
    have hpi : ∀ x ∈ p, ahd x i := by
      rw [hq] at hp
      intro x hx
      exact (List.pairwise_append.mp hp).2.2 x hx i List.mem_cons_self
    have hki : ∀ x ∈ p, ¬ (i.who = x.who ∧ i.nm = x.nm) := by
      rw [hq] at hu
      intro x hx w
      exact (List.pairwise_append.mp hu).2.2 x hx i List.mem_cons_self ⟨w.1.symm, w.2.symm⟩
    unfold cloF
    by_cases hch : (C i && !(z.hit m i)) = true
    · rw [if_pos hch]
      rw [Bool.and_eq_true, Bool.not_eq_true'] at hch
      refine ih (p ++ [i]) m C hq' (fun P => ?_) ?_ hc
      · rw [ha]
        constructor
        · rintro ⟨x, hx, h⟩; exact ⟨x, by simp [hx], h⟩
        · rintro ⟨x, hx, h⟩
          rcases List.mem_append.mp hx with w | w
          · exact ⟨x, w, h⟩
          · rw [List.mem_singleton] at w
            rw [w, hch.1] at h
            cases h.1
      · intro x hx y hy hyx hcx hcy P ⟨t1, t2⟩
        rcases List.mem_append.mp hx with w | w
        · rcases List.mem_append.mp hy with v | v
          · exact hb x w y v hyx hcx hcy P ⟨t1, t2⟩
          · rw [List.mem_singleton] at v
            rw [v] at hyx
            exact ahd_ir (hpi x w) hyx
        · rw [List.mem_singleton] at w
          subst w
          rcases List.mem_append.mp hy with v | v
          · have : m P = true := (ha P).mpr ⟨y, v, hcy, t1⟩
            have : z.hit m x = true := hit_iff.mpr ⟨P, t2, this⟩
            rw [hch.2] at this
            cases this
          · rw [List.mem_singleton] at v
            rw [v] at hyx
            exact ahd_ir hyx hyx
    · rw [if_neg hch]
      refine ih (p ++ [i]) (z.mrk m i) (out1 C i) hq' (fun P => ?_) ?_ ?_
      · unfold Z.mrk
        rw [Bool.or_eq_true, ha]
        constructor
        · rintro (⟨x, hx, h1, h2⟩ | h)
          · exact ⟨x, by simp [hx], by rw [out1_ne (hki x hx)]; exact h1, h2⟩
          · exact ⟨i, by simp, out1_i C i, h⟩
        · rintro ⟨x, hx, h1, h2⟩
          rcases List.mem_append.mp hx with w | w
          · left; exact ⟨x, w, by rw [out1_ne (hki x w)] at h1; exact h1, h2⟩
          · rw [List.mem_singleton] at w
            right; rw [w] at h2; exact h2
      · intro x hx y hy hyx hcx hcy P ⟨t1, t2⟩
        rcases List.mem_append.mp hx with w | w
        · rcases List.mem_append.mp hy with v | v
          · rw [out1_ne (hki x w)] at hcx
            rw [out1_ne (hki y v)] at hcy
            exact hb x w y v hyx hcx hcy P ⟨t1, t2⟩
          · rw [List.mem_singleton] at v
            rw [v] at hyx
            exact ahd_ir (hpi x w) hyx
        · rw [List.mem_singleton] at w
          rw [w, out1_i] at hcx
          cases hcx
      · intro V hv x hx hvx
        have h1 := hc V hv x hx hvx
        by_cases e : i.who = x.who ∧ i.nm = x.nm
        · exfalso
          have hxi : x = i := by
            obtain ⟨a, ha1, ea⟩ := List.mem_iff_getElem.mp hx
            obtain ⟨b, hb1, eb⟩ := List.mem_iff_getElem.mp hiq
            have hpp := List.pairwise_iff_getElem.mp hu
            rcases Nat.lt_trichotomy a b with w | w | w
            · exact absurd (by rw [ea, eb]; exact ⟨e.1.symm, e.2.symm⟩) (hpp a b ha1 hb1 w)
            · subst w; exact ea.symm.trans eb
            · exact absurd (by rw [ea, eb]; exact e) (hpp b a hb1 ha1 w)
          subst hxi
          rw [h1, Bool.true_and, Bool.not_eq_true', Bool.not_eq_false] at hch
          obtain ⟨P, t1, t2⟩ := hit_iff.mp hch
          obtain ⟨y, hy, hcy, ty⟩ := (ha P).mp t2
          have := ub_close hc (by rw [hq]; simp [hy]) hx (hpi y hy) hcy ty t1 hv
          rw [hvx] at this
          cases this
        · rw [out1_ne e]; exact h1
/-- closing from the front -/
theorem clo_all {z : Z} {q : List Ins} (hp : q.Pairwise ahd) (hu : q.Pairwise (fun i j => ¬ (i.who = j.who ∧ i.nm = j.nm))) {C : Ins → Bool} (hc : z.ub q C) : z.clsd q (cloF z (fun _ => false) C q) ∧ z.ub q (cloF z (fun _ => false) C q) := by
  refine cloF_prop hp hu q [] (fun _ => false) C rfl (fun P => ?_) (fun x hx => by simp at hx) hc
  simp
def cnt (C : Ins → Bool) (q : List Ins) : Nat := (q.filter C).length
theorem cnt_le {C D : Ins → Bool} : ∀ {q : List Ins}, (∀ i ∈ q, D i = true → C i = true) → cnt D q ≤ cnt C q := by
  intro q
  induction q with
  | nil => intro _; exact Nat.le_refl _
  | cons i q ih =>
    intro h
    have h1 := h i List.mem_cons_self
    have h2 := ih fun j hj => h j (List.mem_cons_of_mem _ hj)
    unfold cnt at *
    by_cases hd : D i = true
    · rw [List.filter_cons_of_pos hd, List.filter_cons_of_pos (h1 hd), List.length_cons, List.length_cons]; omega
    · rw [List.filter_cons_of_neg hd]
      by_cases hc : C i = true
      · rw [List.filter_cons_of_pos hc, List.length_cons]; omega
      · rw [List.filter_cons_of_neg hc]; exact h2
theorem cnt_lt {C D : Ins → Bool} : ∀ {q : List Ins}, (∀ i ∈ q, D i = true → C i = true) → (∃ i ∈ q, C i = true ∧ D i = false) → cnt D q < cnt C q := by
  intro q
  induction q with
  | nil => rintro _ ⟨i, hi, -⟩; simp at hi
  | cons i q ih =>
    rintro h ⟨j, hj, h3, h4⟩
    have h1 := h i List.mem_cons_self
    have hle := cnt_le (q := q) fun j hj => h j (List.mem_cons_of_mem _ hj)
    unfold cnt at *
    rcases List.mem_cons.mp hj with e | e
    · subst e
      rw [List.filter_cons_of_neg (by rw [h4]; simp), List.filter_cons_of_pos h3, List.length_cons]; omega
    · have h2 := ih (fun j hj => h j (List.mem_cons_of_mem _ hj)) ⟨j, e, h3, h4⟩
      by_cases hd : D i = true
      · rw [List.filter_cons_of_pos hd, List.filter_cons_of_pos (h1 hd), List.length_cons, List.length_cons]; omega
      · rw [List.filter_cons_of_neg hd]
        by_cases hc : C i = true
        · rw [List.filter_cons_of_pos hc, List.length_cons]; omega
        · rw [List.filter_cons_of_neg hc]; exact h2
