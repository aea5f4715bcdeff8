/-! The verdict over the house: its parts. -/
def fmD (z : Z) (c : List Nat) : Nat := (z.fm c).getD 0
def faD (z : Z) (c : List Nat) : Nat := (z.fa c).getD 0
def legZ (z : Z) (M : List Nat) (t : Nat) : Leg := mkLeg (fmD z (sl M (17 + 26 * t) 4)) (fmD z (sl M (17 + 26 * t + 4) 4)) (faD z (sl M (17 + 26 * t + 8) 3)) (num (sl M (17 + 26 * t + 11) 15))
def legsZ (z : Z) (M : List Nat) : List Leg := (List.range (M.getD 16 0)).map (legZ z M)
theorem legsZ_len (z : Z) (M : List Nat) : (legsZ z M).length = M.getD 16 0 := by
  unfold legsZ
  rw [List.length_map, List.length_range]
theorem legsZ_get {z : Z} {M : List Nat} {t : Nat} {l : Leg} (h : (legsZ z M)[t]? = some l) : t < M.getD 16 0 ∧ l = legZ z M t := by
  have h1 := get_lt' h
  rw [legsZ_len] at h1
  refine ⟨h1, ?_⟩
  unfold legsZ at h
  rw [List.getElem?_map, List.getElem?_range h1] at h
  cases h; rfl
theorem cdF_0 {z : Z} : ∀ {cs : List (Bool × List Nat)}, cdF z cs = 0 → ∀ c ∈ cs, ∃ v, cdO z c = some v := by
  intro cs
  induction cs with
  | nil => intro _ c hc; cases hc
  | cons d l ih =>
    intro h c hc
    unfold cdF at h
    cases hd : cdO z d with
    | none =>
      rw [hd] at h
      by_cases c1 : d.1 = true
      · rw [if_pos c1] at h; cases h
      · rw [if_neg c1] at h; cases h
    | some v =>
      rw [hd] at h
      rcases List.mem_cons.mp hc with q | q
      · exact ⟨v, by rw [q]; exact hd⟩
      · exact ih h c q
theorem cdO_m {z : Z} {c : List Nat} (h : ∃ v, cdO z (false, c) = some v) : z.fm c = some (fmD z c) := by
  obtain ⟨v, hv⟩ := h
  have hv' : z.fm c = some v := hv
  unfold fmD
  rw [hv']; rfl
theorem cdO_a {z : Z} {c : List Nat} (h : ∃ v, cdO z (true, c) = some v) : z.fa c = some (faD z c) := by
  obtain ⟨v, hv⟩ := h
  have hv' : z.fa c = some v := hv
  unfold faD
  rw [hv']; rfl
theorem legsC_get (M : List Nat) : ∀ (m t : Nat), t < m → (legsC M m)[3 * t]? = some (false, sl M (17 + 26 * t) 4) ∧ (legsC M m)[3 * t + 1]? = some (false, sl M (17 + 26 * t + 4) 4) ∧ (legsC M m)[3 * t + 2]? = some (true, sl M (17 + 26 * t + 8) 3) := by
  intro m
  induction m with
  | zero => intro t h; omega
  | succ m ih =>
    intro t h
    have hl := legsC_len M m
    show (legsC M m ++ legC M (17 + 26 * m))[3 * t]? = _ ∧ (legsC M m ++ legC M (17 + 26 * m))[3 * t + 1]? = _ ∧ (legsC M m ++ legC M (17 + 26 * m))[3 * t + 2]? = _
    by_cases c : t < m
    · rw [List.getElem?_append_left (by omega), List.getElem?_append_left (by omega), List.getElem?_append_left (by omega)]
      exact ih t c
    · have ht : t = m := by omega
      rw [ht, List.getElem?_append_right (by omega), List.getElem?_append_right (by omega), List.getElem?_append_right (by omega), hl, show 3 * m - 3 * m = 0 by omega, show 3 * m + 1 - 3 * m = 1 by omega, show 3 * m + 2 - 3 * m = 2 by omega]
      exact ⟨rfl, rfl, rfl⟩
theorem legsA_get (M : List Nat) : ∀ (m t : Nat), t < m → (legsA M m)[t]? = some (sl M (17 + 26 * t + 11) 15) := by
  intro m
  induction m with
  | zero => intro t h; omega
  | succ m ih =>
    intro t h
    have hl := legsA_len M m
    show (legsA M m ++ [sl M (17 + 26 * m + 11) 15])[t]? = _
    by_cases c : t < m
    · rw [List.getElem?_append_left (by omega)]; exact ih t c
    · have ht : t = m := by omega
      rw [ht, List.getElem?_append_right (by omega), hl, Nat.sub_self]; rfl
theorem legsOk_get {M : List Nat} : ∀ {m t : Nat}, legsOk M m = true → t < m → isD (sl M (17 + 26 * t + 11) 15) = true := by
  intro m
  induction m with
  | zero => intro t _ h; omega
  | succ m ih =>
    intro t h ht
    have h' : (legsOk M m && isD (sl M (17 + 26 * m + 11) 15)) = true := h
    rw [Bool.and_eq_true] at h'
    by_cases c : t < m
    · exact ih h'.1 c
    · rw [show t = m by omega]; exact h'.2
/-- a message that says what it must; its lengths -/
theorem okM.l5 {M : List Nat} (h : okM 5 M) : (1 ≤ M.getD 15 0 ∧ M.getD 15 0 ≤ 9) ∧ (1 ≤ M.getD 16 0 ∧ M.getD 16 0 ≤ 4) ∧ legsOk M (M.getD 16 0) = true ∧ M.length = 19 + 26 * M.getD 16 0 := by
  obtain ⟨h1, h2, h3⟩ : (1 ≤ M.getD 15 0 ∧ M.getD 15 0 ≤ 9) ∧ (1 ≤ M.getD 16 0 ∧ M.getD 16 0 ≤ 4) ∧ legsOk M (M.getD 16 0) = true := h.ok
  have hl : M.length = 17 + (2 + 26 * M.getD 16 0) := h.len
  exact ⟨h1, h2, h3, by omega⟩
theorem okM.l123 {k : Nat} {M : List Nat} (h : okM k M) : 17 ≤ M.length ∧ M.length ≤ 123 := by
  have hl := h.len
  by_cases c : k = 5
  · subst c
    have := h.l5
    omega
  · have : fLen k M ≤ 22 := by
      unfold fLen
      split <;> first | omega | exact absurd rfl c
    omega
theorem legsZ_R {z : Z} {M : List Nat} (h : okM 5 M) (hc : cdF z (cds 5 M) = 0) : LR z M (legsZ z M) := by
  obtain ⟨_, _, h3, _⟩ := h.l5
  intro t l hl
  obtain ⟨ht, rfl⟩ := legsZ_get hl
  obtain ⟨g1, g2, g3⟩ := legsC_get M _ t ht
  have f := cdF_0 hc
  exact ⟨cdO_m (f _ (List.mem_of_getElem? g1)), cdO_m (f _ (List.mem_of_getElem? g2)), cdO_a (f _ (List.mem_of_getElem? g3)), legsOk_get h3 ht, rfl⟩
theorem num15 {M : List Nat} {a : Nat} (h : a + 15 ≤ M.length) (hD : isD (sl M a 15) = true) : num (sl M a 15) < 1000000000000000 := num_lt 15 (sl M a 15) (sl_len h) hD
theorem num2 {M : List Nat} {a : Nat} (h : a + 2 ≤ M.length) (hD : isD (sl M a 2) = true) : num (sl M a 2) < 100 := num_lt 2 (sl M a 2) (sl_len h) hD
theorem legsZ_b {n : Nat} {z : Z} (hO : okZ n z) {M : List Nat} (h : okM 5 M) (hc : cdF z (cds 5 M) = 0) : ∀ l ∈ legsZ z M, l.f < z.mem.length ∧ l.t < z.mem.length ∧ l.a < z.ast.length ∧ l.v < 1000000000000000 := fun l hl => by
  obtain ⟨t, ht⟩ := List.mem_iff_getElem?.mp hl
  obtain ⟨r1, r2, r3, r4, r5⟩ := legsZ_R h hc t l ht
  have hlen := h.l5.2.2.2
  have ht' := (legsZ_get ht).1
  refine ⟨(fm_lt r1).1, (fm_lt r2).1, fa_lt r3, ?_⟩
  rw [← r5]
  exact num15 (by omega) r4
/-! What the message under way holds, once its codes are found. -/
def MG (S : hS) (z : Z) (k p : Nat) (M : List Nat) : Prop := (S.2.1 801 2 = nI M.length) ∧ (S.2.1 804 2 = nI k) ∧ (S.2.1 805 2 = nI (b36 (sl M 3 4))) ∧ (S.2.2.1 806 2 = lI (b36 (sl M 7 8) : Nat)) ∧ (S.2.1 813 2 = nI p) ∧ (S.2.1 812 2 = nI (ams k M).length) ∧ (∀ (j : Nat) (d : List Nat), (ams k M)[j]? = some d → S.2.2.2.2.2.1 6 j = lI (num d : Nat)) ∧ (oth k M S) ∧ (∀ (t : Nat) (c : Bool × List Nat), (cds k M)[t]? = some c → ∃ v, cdO z c = some v ∧ S.2.2.2.2.1 5 t = nI v)
theorem MG.e801 {S : hS} {z : Z} {k p : Nat} {M : List Nat} (h : MG S z k p M) : S.2.1 801 2 = nI M.length := h.1
theorem MG.e804 {S : hS} {z : Z} {k p : Nat} {M : List Nat} (h : MG S z k p M) : S.2.1 804 2 = nI k := h.2.1
theorem MG.e805 {S : hS} {z : Z} {k p : Nat} {M : List Nat} (h : MG S z k p M) : S.2.1 805 2 = nI (b36 (sl M 3 4)) := h.2.2.1
theorem MG.e806 {S : hS} {z : Z} {k p : Nat} {M : List Nat} (h : MG S z k p M) : S.2.2.1 806 2 = lI (b36 (sl M 7 8) : Nat) := h.2.2.2.1
theorem MG.e813 {S : hS} {z : Z} {k p : Nat} {M : List Nat} (h : MG S z k p M) : S.2.1 813 2 = nI p := h.2.2.2.2.1
theorem MG.e812 {S : hS} {z : Z} {k p : Nat} {M : List Nat} (h : MG S z k p M) : S.2.1 812 2 = nI (ams k M).length := h.2.2.2.2.2.1
theorem MG.am {S : hS} {z : Z} {k p : Nat} {M : List Nat} (h : MG S z k p M) : ∀ (j : Nat) (d : List Nat), (ams k M)[j]? = some d → S.2.2.2.2.2.1 6 j = lI (num d : Nat) := h.2.2.2.2.2.2.1
theorem MG.ot {S : hS} {z : Z} {k p : Nat} {M : List Nat} (h : MG S z k p M) : oth k M S := h.2.2.2.2.2.2.2.1
theorem MG.fd {S : hS} {z : Z} {k p : Nat} {M : List Nat} (h : MG S z k p M) : ∀ (t : Nat) (c : Bool × List Nat), (cds k M)[t]? = some c → ∃ v, cdO z c = some v ∧ S.2.2.2.2.1 5 t = nI v := h.2.2.2.2.2.2.2.2
theorem oth.fr {k : Nat} {M : List Nat} {S S' : hS} (h : oth k M S) (hi : ∀ j, 814 ≤ j → j ≤ 817 → S'.2.1 j 2 = S.2.1 j 2) (hl : S'.2.2.1 818 2 = S.2.2.1 818 2) : oth k M S' := by
  unfold oth at h ⊢
  split <;> simp only [hi 814 (by omega) (by omega), hi 815 (by omega) (by omega), hi 816 (by omega) (by omega), hi 817 (by omega) (by omega), hl] <;> exact h
theorem MG.fr {S S' : hS} {z z' : Z} {k p : Nat} {M : List Nat} (h : MG S z k p M) (hi : ∀ j, 801 ≤ j → j ≤ 817 → S'.2.1 j 2 = S.2.1 j 2) (hl : S'.2.2.1 806 2 = S.2.2.1 806 2) (hl2 : S'.2.2.1 818 2 = S.2.2.1 818 2) (ha : S'.2.2.2.2.1 5 = S.2.2.2.2.1 5) (hb : S'.2.2.2.2.2.1 6 = S.2.2.2.2.2.1 6) (hz : z'.mem = z.mem) (hz2 : z'.ast = z.ast) : MG S' z' k p M := by
  refine ⟨by rw [hi 801 (by omega) (by omega)]; exact h.e801, by rw [hi 804 (by omega) (by omega)]; exact h.e804, by rw [hi 805 (by omega) (by omega)]; exact h.e805, by rw [hl]; exact h.e806, by rw [hi 813 (by omega) (by omega)]; exact h.e813, by rw [hi 812 (by omega) (by omega)]; exact h.e812, fun j d hd => by rw [hb]; exact h.am j d hd, h.ot.fr (fun j h1 h2 => hi j (by omega) h2) hl2, fun t c hc => ?_⟩
  obtain ⟨v, v1, v2⟩ := h.fd t c hc
  refine ⟨v, ?_, by rw [ha]; exact v2⟩
  rw [← v1]
  unfold cdO Z.fa Z.fm
  rw [hz, hz2]
theorem MG.f {S S' : hS} {z : Z} {k p : Nat} {M : List Nat} (h : MG S z k p M) (hf : hE hs_fix S.1) (w : BF S S') : MG S' z k p M := by
  have h60 : 59 < S.1.length := fix_lt hf (by omega)
  exact h.fr (fun j h1 h2 => w.i j 2 (by simp only [List.mem_cons, List.not_mem_nil, or_false]; omega) (by omega)) (w.l 806 2 (by decide) (by omega)) (w.l 818 2 (by decide) (by omega)) (w.a 5 (by omega)) (w.b 6 (by omega)) rfl rfl
def vMat (z : Z) (k p : Nat) (M : List Nat) : Nat := match k with
  | 0 => vNew z (sl M 15 4)
  | 1 => vAst z (sl M 15 3)
  | 2 => vPrc z (faD z (sl M 15 3)) (num (sl M 18 15)) (num (sl M 33 2))
  | 3 => vIss z (fmD z (sl M 18 4)) (faD z (sl M 15 3)) (num (sl M 22 15))
  | 4 => vRed z (fmD z (sl M 18 4)) (faD z (sl M 15 3)) (num (sl M 22 15))
  | 5 => vLeg z (legsZ z M)
  | 6 => vCnf z (fmD z (sl M 15 4)) (sl M 19 8) p
  | 7 => vOwn z p (sl M 15 8)
  | 8 => vOwn z p (sl M 15 8)
  | 9 => vLim z p (fmD z (sl M 15 4)) (num (sl M 19 15))
  | 10 => vUnl z p (fmD z (sl M 15 4))
  | 11 => vPlg z p (faD z (sl M 15 3)) (num (sl M 18 15))
  | 12 => vUnp z p (faD z (sl M 15 3)) (num (sl M 18 15))
  | _ => 0
