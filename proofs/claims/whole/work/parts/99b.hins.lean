/-! The class's instruction: what it takes, marks, and moves. -/
theorem drop_cons {α : Type} {ks : List α} {j : Nat} {P : α} (h : ks[j]? = some P) : ks.drop j = P :: ks.drop (j + 1) := by
  obtain ⟨h1, h2⟩ := List.getElem?_eq_some_iff.mp h
  rw [List.drop_eq_getElem_cons h1, h2]
theorem get_lt {α : Type} {ks : List α} {j : Nat} (h : j < ks.length) : ∃ P, ks[j]? = some P := ⟨ks[j], List.getElem?_eq_some_iff.mpr ⟨h, rfl⟩⟩
theorem get_lt' {α : Type} {ks : List α} {j : Nat} {P : α} (h : ks[j]? = some P) : j < ks.length := (List.getElem?_eq_some_iff.mp h).1
theorem nI_le0 {a b : Nat} (ha : a < 2147483648) (hb : b < 2147483648) (h : a ≤ b) : nI a ≤ nI b := (nI_le' ha hb).mpr h
theorem nI_ngt {a b : Nat} (ha : a < 2147483648) (hb : b < 2147483648) (h : b < a) : ¬ nI a ≤ nI b := fun q => by
  have := (nI_le' ha hb).mp q
  omega
theorem cmp0_ge {a : Int} (ha : inL a) : 0 ≤ lg_cmp (lI a) 0 ↔ 0 ≤ a := cmp_ge0 (b := 0) ha (by omega)
theorem cmp0_le {a : Int} (ha : inL a) : lg_cmp (lI a) 0 ≤ 0 ↔ a ≤ 0 := cmp_le0 (b := 0) ha (by omega)
theorem cmp0_lt {a : Int} (ha : inL a) : lg_cmp (lI a) 0 < 0 ↔ a < 0 := cmp_lt0 (b := 0) ha (by omega)
theorem cmp0_eq {a : Int} (ha : inL a) : lg_cmp (lI a) 0 = 0 ↔ a = 0 := cmp_eq0 (b := 0) ha (by omega)
section HFR
variable {ki kl kr ka kb kq : List Nat} {S S' : hS}
theorem HN.x {ad : Nat → Option Nat} {fc : Option Nat} {x : Nat} {i : Ins} {ks : List Nat} (h : HN S ad fc x i ks) (w : hX ki kl kr ka kb kq S S') (h1 : 710 ∉ ki) (h2 : 708 ∉ kr ∧ 709 ∉ kr) (h3 : x + 2 ∉ kq) (h4 : x + 3 ∉ kb) : HN S' ad fc x i ks := by
  refine ⟨(w.er _ h2.1 _).trans h.rc, by rw [w.sh]; exact h.kc, (w.er _ h2.2 _).trans h.rd, by rw [w.sh]; exact h.kd, (w.ei _ h1 _).trans h.sz, h.le, h.nd, fun j P q => ?_, h.mem⟩
  obtain ⟨y, e1, e2, e3⟩ := h.row j P q
  exact ⟨y, (w.eq _ h3 _).trans e1, e2, (w.eb _ h4 _).trans e3⟩
theorem HW.x {x : Nat} {i : Ins} {ws : List Nat} (h : HW S x i ws) (w : hX ki kl kr ka kb kq S S') (h1 : 707 ∉ ki) (h2 : 706 ∉ kr) (h3 : x + 1 ∉ ka) : HW S' x i ws :=
  ⟨(w.er _ h2 _).trans h.rw, by rw [w.sh]; exact h.kw, (w.ei _ h1 _).trans h.sz, h.le, h.nd, fun j v q => (w.ea _ h3 _).trans (h.row j v q), h.mem⟩
theorem HE.x {mem : List (List Nat)} {x : Nat} {i : Ins} (h : HE S mem x i) (w : hX ki kl kr ka kb kq S S') (h1 : 701 ∉ ki) (h2 : 702 ∉ kl) : HE S' mem x i :=
  ⟨by rw [w.sh]; exact h.k, (w.ei _ h1 _).trans h.cod, (w.el _ h2 _).trans h.nm⟩
theorem HP.x {z : Z} {P x : Nat} (h : HP S z P x) (w : hX ki kl kr ka kb kq S S') (h1 : 1000 ∉ ki ∧ 1002 ∉ ki ∧ 1007 ∉ ki) (h2 : 1001 ∉ kl ∧ 1003 ∉ kl ∧ 1004 ∉ kl ∧ 1005 ∉ kl ∧ 1006 ∉ kl) : HP S' z P x :=
  ⟨by rw [w.sh]; exact h.k, (w.el _ h2.1 _).trans h.lev, (w.ei _ h1.2.1 _).trans h.fld, fun q => (w.el _ h2.2.1 _).trans (h.flr q), fun q => ⟨(w.el _ h2.2.2.1 _).trans (h.day q).1, (w.el _ h2.2.2.2.1 _).trans (h.day q).2.1, (w.el _ h2.2.2.2.2 _).trans (h.day q).2.2.1, (w.ei _ h1.2.2 _).trans (h.day q).2.2.2⟩, fun q => (w.ei _ h1.1 _).trans (h.tow q)⟩
theorem HT.x {z : Z} {ad : Nat → Option Nat} (h : HT S z ad) (w : hX ki kl kr ka kb kq S S') (h1 : 1000 ∉ ki ∧ 1002 ∉ ki ∧ 1007 ∉ ki) (h2 : 1001 ∉ kl ∧ 1003 ∉ kl ∧ 1004 ∉ kl ∧ 1005 ∉ kl ∧ 1006 ∉ kl) : HT S' z ad :=
  ⟨fun P x q => (h.pos P x q).x w h1 h2, h.inr, h.inj, h.acc0, h.rom0⟩
theorem HI.x {z : Z} {ad : Nat → Option Nat} {x : Nat} {i : Ins} (h : HI S z ad x i) (w : hX ki kl kr ka kb kq S S') (h1 : 700 ∉ ki ∧ 701 ∉ ki ∧ 703 ∉ ki ∧ 707 ∉ ki ∧ 710 ∉ ki) (h5 : S'.2.1 704 x = S.2.1 704 x) (h2 : 702 ∉ kl) (h3 : 706 ∉ kr ∧ 708 ∉ kr ∧ 709 ∉ kr) (h4 : x + 1 ∉ ka ∧ x + 2 ∉ kq ∧ x + 3 ∉ kb) : HI S' z ad x i := by
  obtain ⟨ks, hk⟩ := h.net
  obtain ⟨ws, hw⟩ := h.awt
  exact ⟨h.e.x w h1.2.1 h2, (w.ei _ h1.1 _).trans h.who, (w.ei _ h1.2.2.1 _).trans h.pr, h5.trans h.st, ⟨ks, hk.x w h1.2.2.2.2 h3.2 h4.2.1 h4.2.2⟩, ⟨ws, hw.x w h1.2.2.2.1 h3.1 h4.1⟩⟩
end HFR
section HIN
variable {S : hS} {z : Z} {ad : Nat → Option Nat} {x : Nat} {i : Ins} {ks : List Nat}
theorem HN.at {fc : Option Nat} (h : HN S ad fc x i ks) (hl : i.legs.length ≤ 4) {j P : Nat} (hj : ks[j]? = some P) : ∃ y, am_ix (nI j) (hln S.1 (x + 2)) = some j ∧ am_ix (nI j) (hln S.1 (x + 3)) = some j ∧ S.2.2.2.2.2.2 (x + 2) j = some y ∧ ad P = some y ∧ S.2.2.2.2.2.1 (x + 3) j = lI (i.net fc P) := by
  obtain ⟨y, e1, e2, e3⟩ := h.row j P hj
  have hlt := get_lt' hj
  have hle := h.le
  refine ⟨y, ?_, ?_, e1, e2, e3⟩
  · rw [hln_of h.kc]; exact ix_N (by omega) (by omega)
  · rw [hln_of h.kd]; exact ix_N (by omega) (by omega)
theorem inP_flr (hF : okF z) {P : Nat} (h : inP z P) : -4000000000000000000 ≤ z.flr P ∧ z.flr P ≤ 4000000000000000000 := hF.flr (by
  unfold inP at h
  omega)
theorem h_takes (hN : HN S ad z.fc x i ks) (hT : HT S z ad) (hok : okN z 0 i) {j P : Nat} (hj : ks[j]? = some P) : h_In_takes x (nI j) S = some (b2i (z.tks i P)) := by
  obtain ⟨y, e1, e2, e3, e4, e5⟩ := hN.at hok.len hj
  have hb := hok.net P
  unfold h_In_takes
  rw [hN.rd, Option.bind_some, e2, Option.bind_some, e5]
  by_cases h : i.net z.fc P < 0
  · rw [if_neg (fun q => by have := (cmp0_ge (by omega)).mp q; omega), hN.rc, Option.bind_some, e1, Option.bind_some, e3, Option.bind_some, (hT.pos P y e4).fld]
    cases hf : z.fld P with
    | true => rw [if_neg (by decide), tks_iff.mpr ⟨h, hf⟩]; rfl
    | false =>
      have : z.tks i P = false := by
        unfold Z.tks
        rw [hf, Bool.and_false]
      rw [if_pos (by decide), this]; rfl
  · have : z.tks i P = false := by
      unfold Z.tks
      rw [decide_eq_false h, Bool.false_and]
    rw [if_pos ((cmp0_ge (by omega)).mpr (by omega)), this]; rfl
def canB (z : Z) (m : Nat → Bool) (i : Ins) (P : Nat) : Bool := !(z.tks i P) || (!(m P) && decide (z.flr P ≤ z.lev P + i.net z.fc P))
theorem h_can_loop (hN : HN S ad z.fc x i ks) (hT : HT S z ad) (hok : okN z 0 i) (hF : okF z) {L : Nat} {m : Nat → Bool} (hm : ∀ P y, ad P = some y → (S.2.1 1008 y = nI L ↔ m P = true)) : ∀ (d fu j : Nat), ks.length - j = d → d < fu → j ≤ ks.length → hl_In_canSettleBehind_2 fu x (nI L) (nI j) S = some (b2i ((ks.drop j).all (canB z m i))) := by
  have hle := hN.le
  have hl4 := hok.len
  intro d
  induction d with
  | zero =>
    intro fu j hd hf hj
    obtain ⟨fu, rfl⟩ : ∃ f, fu = f + 1 := ⟨fu - 1, by omega⟩
    unfold hl_In_canSettleBehind_2
    rw [hN.sz, if_pos (nI_le0 (by omega) (by omega) (by omega)), List.drop_of_length_le (by omega)]; rfl
  | succ d ih =>
    intro fu j hd hf hj
    obtain ⟨fu, rfl⟩ : ∃ f, fu = f + 1 := ⟨fu - 1, by omega⟩
    obtain ⟨P, hP⟩ := get_lt (ks := ks) (j := j) (by omega)
    obtain ⟨y, e1, e2, e3, e4, e5⟩ := hN.at hok.len hP
    have IH := ih fu (j + 1) (by omega) (by omega) (by omega)
    have hb := hok.net P
    have hlv := hF.lev P
    have hfl := inP_flr hF (hT.inr P y e4)
    have hp := hT.pos P y e4
    unfold hl_In_canSettleBehind_2
    rw [hN.sz, if_neg (nI_ngt (by omega) (by omega) (by omega)), h_takes hN hT hok hP, Option.bind_some, drop_cons hP, List.all_cons]
    cases ht : z.tks i P with
    | false =>
      rw [if_pos (by decide), nI_add1, IH]
      have : canB z m i P = true := by unfold canB; rw [ht]; rfl
      rw [this, Bool.true_and]
    | true =>
      have htt := tks_iff.mp ht
      rw [if_neg (by decide), hN.rc, Option.bind_some, e1, Option.bind_some, e3, Option.bind_some]
      cases hmm : m P with
      | true =>
        have : canB z m i P = false := by unfold canB; rw [ht, hmm]; rfl
        rw [if_pos ((hm P y e4).mpr hmm), this]; rfl
      | false =>
        rw [if_neg (fun q => by have := (hm P y e4).mp q; rw [hmm] at this; cases this), hN.rd, Option.bind_some, e2, Option.bind_some, e5]
        unfold h_Po_canMoveBy
        rw [hp.fld, htt.2, if_neg (by decide), hp.lev, hp.flr (Or.inr htt.2), lI_add]
        by_cases hc : z.flr P ≤ z.lev P + i.net z.fc P
        · have : canB z m i P = true := by unfold canB; rw [ht, hmm, decide_eq_true hc]; rfl
          rw [if_neg (fun q => by have := (cmp_lt0 (by omega) (by omega)).mp q; omega), Option.bind_some, if_pos (by decide), nI_add1, IH, this, Bool.true_and]
        · have : canB z m i P = false := by unfold canB; rw [ht, hmm, decide_eq_false hc]; rfl
          rw [if_pos ((cmp_lt0 (by omega) (by omega)).mpr (by omega)), Option.bind_some, if_neg (by decide), this]; rfl
theorem all_ks {α : Type} {as bs : List α} (h : ∀ P, P ∈ as ↔ P ∈ bs) (f : α → Bool) : as.all f = bs.all f := by
  rw [Bool.eq_iff_iff, List.all_eq_true, List.all_eq_true]
  exact ⟨fun q P hP => q P ((h P).mpr hP), fun q P hP => q P ((h P).mp hP)⟩
theorem any_ks {α : Type} {as bs : List α} (h : ∀ P, P ∈ as ↔ P ∈ bs) (f : α → Bool) : as.any f = bs.any f := by
  rw [Bool.eq_iff_iff, List.any_eq_true, List.any_eq_true]
  exact ⟨fun ⟨P, hP, q⟩ => ⟨P, (h P).mp hP, q⟩, fun ⟨P, hP, q⟩ => ⟨P, (h P).mpr hP, q⟩⟩
theorem h_can (hN : HN S ad z.fc x i ks) (hT : HT S z ad) (hok : okN z 0 i) (hF : okF z) {L : Nat} {m : Nat → Bool} (hm : ∀ P y, ad P = some y → (S.2.1 1008 y = nI L ↔ m P = true)) : h_In_canSettleBehind x (nI L) S = some (b2i (z.can m i)) := by
  have hle := hN.le
  have hl4 := hok.len
  unfold h_In_canSettleBehind
  rw [show (0 : Int32) = nI 0 from rfl, h_can_loop hN hT hok hF hm _ 100000 0 rfl (by omega) (by omega), List.drop_zero, all_ks hN.mem]
  rfl
theorem h_hit_loop (hN : HN S ad z.fc x i ks) (hT : HT S z ad) (hok : okN z 0 i) {L : Nat} {m : Nat → Bool} (hm : ∀ P y, ad P = some y → (S.2.1 1008 y = nI L ↔ m P = true)) : ∀ (d fu j : Nat), ks.length - j = d → d < fu → j ≤ ks.length → hl_In_takesMarked_2 fu x (nI L) (nI j) S = some (b2i ((ks.drop j).any fun P => z.tks i P && m P)) := by
  have hle := hN.le
  have hl4 := hok.len
  intro d
  induction d with
  | zero =>
    intro fu j hd hf hj
    obtain ⟨fu, rfl⟩ : ∃ f, fu = f + 1 := ⟨fu - 1, by omega⟩
    unfold hl_In_takesMarked_2
    rw [hN.sz, if_pos (nI_le0 (by omega) (by omega) (by omega)), List.drop_of_length_le (by omega)]; rfl
  | succ d ih =>
    intro fu j hd hf hj
    obtain ⟨fu, rfl⟩ : ∃ f, fu = f + 1 := ⟨fu - 1, by omega⟩
    obtain ⟨P, hP⟩ := get_lt (ks := ks) (j := j) (by omega)
    obtain ⟨y, e1, e2, e3, e4, e5⟩ := hN.at hok.len hP
    have IH := ih fu (j + 1) (by omega) (by omega) (by omega)
    unfold hl_In_takesMarked_2
    rw [hN.sz, if_neg (nI_ngt (by omega) (by omega) (by omega)), h_takes hN hT hok hP, Option.bind_some, drop_cons hP, List.any_cons]
    cases ht : z.tks i P with
    | false => rw [if_pos (by decide), nI_add1, IH, Bool.false_and, Bool.false_or]
    | true =>
      rw [if_neg (by decide), hN.rc, Option.bind_some, e1, Option.bind_some, e3, Option.bind_some]
      cases hmm : m P with
      | true => rw [if_neg (fun q => q ((hm P y e4).mpr hmm))]; rfl
      | false => rw [if_pos (fun q => by have := (hm P y e4).mp q; rw [hmm] at this; cases this), nI_add1, IH, Bool.and_false, Bool.false_or]
theorem h_hit (hN : HN S ad z.fc x i ks) (hT : HT S z ad) (hok : okN z 0 i) {L : Nat} {m : Nat → Bool} (hm : ∀ P y, ad P = some y → (S.2.1 1008 y = nI L ↔ m P = true)) : h_In_takesMarked x (nI L) S = some (b2i (z.hit m i)) := by
  have hle := hN.le
  have hl4 := hok.len
  unfold h_In_takesMarked
  rw [show (0 : Int32) = nI 0 from rfl, h_hit_loop hN hT hok hm _ 100000 0 rfl (by omega) (by omega), List.drop_zero, any_ks hN.mem]
  rfl
theorem h_mark_loop (hok : okN z 0 i) (v : Int32) : ∀ (d fu j : Nat) (S : hS), HN S ad z.fc x i ks → HT S z ad → ks.length - j = d → d < fu → j ≤ ks.length → ∃ S', hl_In_markTaken_2 fu x v (nI j) S = some S' ∧ hX [1008] [] [] [] [] [] S S' ∧ ∀ P y, ad P = some y → S'.2.1 1008 y = if P ∈ ks.drop j ∧ z.tks i P = true then v else S.2.1 1008 y := by
  have hl4 := hok.len
  intro d
  induction d with
  | zero =>
    intro fu j S hN hT hd hf hj
    have hle := hN.le
    obtain ⟨fu, rfl⟩ : ∃ f, fu = f + 1 := ⟨fu - 1, by omega⟩
    refine ⟨S, ?_, hX.rf, fun P y _ => ?_⟩
    · unfold hl_In_markTaken_2
      rw [hN.sz, if_pos (nI_le0 (by omega) (by omega) (by omega))]
    · rw [List.drop_of_length_le (by omega), if_neg (fun q => by cases q.1)]
  | succ d ih =>
    intro fu j S hN hT hd hf hj
    have hle := hN.le
    obtain ⟨fu, rfl⟩ : ∃ f, fu = f + 1 := ⟨fu - 1, by omega⟩
    obtain ⟨P, hP⟩ := get_lt (ks := ks) (j := j) (by omega)
    obtain ⟨y, e1, e2, e3, e4, e5⟩ := hN.at hok.len hP
    cases ht : z.tks i P with
    | false =>
      obtain ⟨S', q1, q2, q3⟩ := ih fu (j + 1) S hN hT (by omega) (by omega) (by omega)
      refine ⟨S', ?_, q2, fun Q w hw => ?_⟩
      · unfold hl_In_markTaken_2
        rw [hN.sz, if_neg (nI_ngt (by omega) (by omega) (by omega)), h_takes hN hT hok hP, Option.bind_some, ht, if_pos (by decide), Option.bind_some, nI_add1, q1]
      · rw [q3 Q w hw, drop_cons hP]
        by_cases hQ : Q = P
        · subst hQ
          rw [if_neg (fun c => by rw [ht] at c; cases c.2), if_neg (fun c => by rw [ht] at c; cases c.2)]
        · have : Q ∈ P :: ks.drop (j + 1) ↔ Q ∈ ks.drop (j + 1) := by rw [List.mem_cons]; exact ⟨fun c => c.resolve_left hQ, Or.inr⟩
          simp only [this]
    | true =>
      have w1 : hX [1008] [] [] [] [] [] S (hpI S 1008 y v) := hX.rf.pI (by decide)
      obtain ⟨S', q1, q2, q3⟩ := ih fu (j + 1) (hpI S 1008 y v) (hN.x w1 (by decide) (by decide) (by simp) (by simp)) (hT.x w1 (by decide) (by decide)) (by omega) (by omega) (by omega)
      refine ⟨S', ?_, w1.tr q2, fun Q w hw => ?_⟩
      · unfold hl_In_markTaken_2
        rw [hN.sz, if_neg (nI_ngt (by omega) (by omega) (by omega)), h_takes hN hT hok hP, Option.bind_some, ht, if_neg (by decide), hN.rc, Option.bind_some, e1, Option.bind_some, e3, Option.bind_some, Option.bind_some, nI_add1, q1]
      · rw [q3 Q w hw, drop_cons hP]
        by_cases hQ : Q = P
        · subst hQ
          rw [e4] at hw
          cases hw
          have e : (if Q ∈ Q :: ks.drop (j + 1) ∧ z.tks i Q = true then v else S.2.1 1008 y) = v := if_pos ⟨List.mem_cons_self, ht⟩
          rw [e]
          show (if _ then v else up2 S.2.1 1008 y v 1008 y) = v
          rw [up2_eq]
          split <;> rfl
        · have h2 : w ≠ y := fun c => hQ (hT.inj Q P y (by rw [← c]; exact hw) e4)
          have : Q ∈ P :: ks.drop (j + 1) ↔ Q ∈ ks.drop (j + 1) := by rw [List.mem_cons]; exact ⟨fun c => c.resolve_left hQ, Or.inr⟩
          simp only [this]
          show (if _ then v else up2 S.2.1 1008 y v 1008 w) = _
          rw [up2_at, if_neg h2]
theorem h_mark (hok : okN z 0 i) (hN : HN S ad z.fc x i ks) (hT : HT S z ad) (v : Int32) : ∃ S', h_In_markTaken x v S = some S' ∧ hX [1008] [] [] [] [] [] S S' ∧ ∀ P y, ad P = some y → S'.2.1 1008 y = if z.tks i P = true then v else S.2.1 1008 y := by
  have hle := hN.le
  have hl4 := hok.len
  obtain ⟨S', q1, q2, q3⟩ := h_mark_loop hok v _ 100000 0 S hN hT rfl (by omega) (by omega)
  refine ⟨S', ?_, q2, fun P y h => ?_⟩
  · unfold h_In_markTaken
    rw [show (0 : Int32) = nI 0 from rfl, q1]; rfl
  · rw [q3 P y h, List.drop_zero]
    by_cases ht : z.tks i P = true
    · have : P ∈ ks := (hN.mem P).mpr (net_mem (by have := (tks_iff.mp ht).1; omega))
      rw [if_pos ⟨this, ht⟩, if_pos ht]
    · rw [if_neg (fun c => ht c.2), if_neg ht]
end HIN
/-! Moving. -/
def Z.mvH (z : Z) (P : Nat) (v : Int) : Z := (z.1, ((fun Q => if Q = P then z.pos Q + v else z.pos Q), (fun Q => if Q = P ∧ v < 0 then z.wnt Q - v else z.wnt Q), (fun Q => if Q = P ∧ 0 < v then z.cam Q + v else z.cam Q), (fun Q => if Q = P ∧ v ≠ 0 then z.mv Q + 1 else z.mv Q), (fun k => if 16384 + k = P then z.paid k - v else z.paid k)), z.2.2)
theorem mvH_lev (z : Z) (P Q : Nat) (v : Int) : (z.mvH P v).lev Q = if Q = P then z.lev Q + v else z.lev Q := by
  have e1 : ∀ Q, (z.mvH P v).pos Q = if Q = P then z.pos Q + v else z.pos Q := fun _ => rfl
  have e2 : ∀ k, (z.mvH P v).paid k = if 16384 + k = P then z.paid k - v else z.paid k := fun _ => rfl
  unfold Z.lev
  rw [e1, e2]
  by_cases h1 : Q < 16384
  · rw [if_pos h1, if_pos h1]
  · rw [if_neg h1, if_neg h1, show 16384 + (Q - 16384) = Q by omega]
    by_cases h2 : Q = P
    · rw [if_pos h2, if_pos h2]; omega
    · rw [if_neg h2, if_neg h2]
theorem HP.eqv {S : hS} {z z' : Z} {P x : Nat} (h : HP S z P x) (h1 : z'.1 = z.1) (h2 : z'.lev P = z.lev P) (h3 : z'.wnt P = z.wnt P) (h4 : z'.cam P = z.cam P) (h5 : z'.mv P = z.mv P) : HP S z' P x := by
  have e1 : z'.fld P = z.fld P := by unfold Z.fld Z.lim; rw [h1]
  have e2 : z'.flr P = z.flr P := by unfold Z.flr Z.fc Z.crd Z.wor Z.mny Z.pl Z.lim Z.ast; rw [h1]
  have e3 : z'.beg P = z.beg P := by unfold Z.beg; rw [h1]
  exact ⟨h.k, by rw [h2]; exact h.lev, by rw [e1]; exact h.fld, by rw [e1, e2]; exact h.flr, by rw [e3, h3, h4, h5]; exact h.day, h.tow⟩
set_option maxHeartbeats 1000000 in
theorem h_moveBy {S : hS} {z : Z} {ad : Nat → Option Nat} (hT : HT S z ad) {P y : Nat} (hy : ad P = some y) {v : Int} (hv : inL v) : ∃ S', h_Po_moveBy y (lI v) S = some S' ∧ HT S' (z.mvH P v) ad ∧ hX [1007] [1001, 1005, 1006] [] [] [] [] S S' := by
  have hp := hT.pos P y hy
  have key : ∀ S', hX [1007] [1001, 1005, 1006] [] [] [] [] S S' → (∀ w, w ≠ y → S'.2.2.1 1001 w = S.2.2.1 1001 w ∧ S'.2.2.1 1005 w = S.2.2.1 1005 w ∧ S'.2.2.1 1006 w = S.2.2.1 1006 w ∧ S'.2.1 1007 w = S.2.1 1007 w) → S'.2.2.1 1001 y = lI (z.lev P + v) → (P < 16384 → S'.2.2.1 1005 y = lI ((z.mvH P v).wnt P) ∧ S'.2.2.1 1006 y = lI ((z.mvH P v).cam P) ∧ S'.2.1 1007 y = nI ((z.mvH P v).mv P)) → HT S' (z.mvH P v) ad := by
    intro S' w h1 h2 h3
    refine ⟨fun Q x hx => ?_, hT.inr, hT.inj, fun Q hQ hn => ?_, fun k hk hn => ?_⟩
    · have hq := hT.pos Q x hx
      by_cases hQ : Q = P
      · subst hQ
        rw [hy] at hx; cases hx
        refine ⟨by rw [w.sh]; exact hq.k, by rw [h2, mvH_lev, if_pos rfl], (w.ei _ (by decide) _).trans hq.fld, fun c => (w.el _ (by decide) _).trans (hq.flr c), fun c => ⟨(w.el _ (by decide) _).trans (hq.day c).1, (h3 c).1, (h3 c).2.1, (h3 c).2.2⟩, fun c => (w.ei _ (by decide) _).trans (hq.tow c)⟩
      · have hxy : x ≠ y := fun c => hQ (hT.inj Q P y (by rw [← c]; exact hx) hy)
        obtain ⟨g1, g2, g3, g4⟩ := h1 x hxy
        have : HP S' z Q x := ⟨by rw [w.sh]; exact hq.k, g1.trans hq.lev, (w.ei _ (by decide) _).trans hq.fld, fun c => (w.el _ (by decide) _).trans (hq.flr c), fun c => ⟨(w.el _ (by decide) _).trans (hq.day c).1, g2.trans (hq.day c).2.1, g3.trans (hq.day c).2.2.1, g4.trans (hq.day c).2.2.2⟩, fun c => (w.ei _ (by decide) _).trans (hq.tow c)⟩
        refine this.eqv rfl (by rw [mvH_lev, if_neg hQ]) ?_ ?_ ?_
        · show (if Q = P ∧ v < 0 then _ else _) = _
          rw [if_neg (fun c => hQ c.1)]
        · show (if Q = P ∧ 0 < v then _ else _) = _
          rw [if_neg (fun c => hQ c.1)]
        · show (if Q = P ∧ v ≠ 0 then _ else _) = _
          rw [if_neg (fun c => hQ c.1)]
    · have hQ2 : Q ≠ P := fun c => by rw [c, hy] at hn; cases hn
      obtain ⟨g1, g2, g3, g4, g5, g6⟩ := hT.acc0 Q hQ hn
      refine ⟨?_, g2, g3, ?_, ?_, ?_⟩
      · show (if Q = P then _ else _) = _
        rw [if_neg hQ2]; exact g1
      · show (if Q = P ∧ v < 0 then _ else _) = _
        rw [if_neg (fun c => hQ2 c.1)]; exact g4
      · show (if Q = P ∧ 0 < v then _ else _) = _
        rw [if_neg (fun c => hQ2 c.1)]; exact g5
      · show (if Q = P ∧ v ≠ 0 then _ else _) = _
        rw [if_neg (fun c => hQ2 c.1)]; exact g6
    · have hQ2 : 16384 + k ≠ P := fun c => by rw [c, hy] at hn; cases hn
      obtain ⟨g1, g2⟩ := hT.rom0 k hk hn
      refine ⟨?_, g2⟩
      show (if 16384 + k = P then _ else _) = _
      rw [if_neg hQ2]; exact g1
  unfold h_Po_moveBy
  by_cases h0 : v = 0
  · refine ⟨S, ?_, ?_, hX.rf⟩
    · rw [if_neg (fun q => q ((cmp0_eq hv).mpr h0))]
    · refine key S hX.rf (fun w _ => ⟨rfl, rfl, rfl, rfl⟩) (by rw [hp.lev, h0, Int.add_zero]) (fun c => ?_)
      refine ⟨(hp.day c).2.1.trans ?_, (hp.day c).2.2.1.trans ?_, (hp.day c).2.2.2.trans ?_⟩
      · show _ = lI (if P = P ∧ v < 0 then _ else _)
        rw [if_neg (fun c => by omega)]
      · show _ = lI (if P = P ∧ 0 < v then _ else _)
        rw [if_neg (fun c => by omega)]
      · show _ = nI (if P = P ∧ v ≠ 0 then _ else _)
        rw [if_neg (fun c => c.2 h0)]
  rw [if_pos (fun q => h0 ((cmp0_eq hv).mp q))]
  by_cases h1 : 0 ≤ v
  · rw [if_pos ((cmp0_ge hv).mpr h1)]
    have w : hX [1007] [1001, 1005, 1006] [] [] [] [] S (hpL (hpI (hpL S 1001 y (S.2.2.1 1001 y + lI v)) 1007 y (S.2.1 1007 y + 1)) 1006 y (S.2.2.1 1006 y + lI v)) := ((hX.rf.pL (by decide)).pI (by decide)).pL (by decide)
    refine ⟨_, rfl, key _ w (fun w hw => ?_) ?_ (fun c => ?_), w⟩
    · refine ⟨?_, rfl, ?_, ?_⟩
      · simp [hpL, hpI, up2, hw]
      · simp [hpL, hpI, up2, hw]
      · simp [hpL, hpI, up2, hw]
    · refine Eq.trans (show _ = S.2.2.1 1001 y + lI v by simp [hpL, hpI, up2]) ?_
      rw [hp.lev, lI_add]
    · refine ⟨?_, ?_, ?_⟩
      · refine Eq.trans (show _ = S.2.2.1 1005 y by simp [hpL, hpI, up2]) ?_
        show _ = lI (if P = P ∧ v < 0 then _ else _)
        rw [if_neg (fun c => by omega)]; exact (hp.day c).2.1
      · refine Eq.trans (show _ = S.2.2.1 1006 y + lI v by simp [hpL, hpI, up2]) ?_
        show _ = lI (if P = P ∧ 0 < v then _ else _)
        rw [if_pos ⟨rfl, by omega⟩, (hp.day c).2.2.1, lI_add]
      · refine Eq.trans (show _ = S.2.1 1007 y + 1 by simp [hpL, hpI, up2]) ?_
        show _ = nI (if P = P ∧ v ≠ 0 then _ else _)
        rw [if_pos ⟨rfl, h0⟩, (hp.day c).2.2.2, nI_add1]
  · rw [if_neg (fun q => h1 ((cmp0_ge hv).mp q))]
    have w : hX [1007] [1001, 1005, 1006] [] [] [] [] S (hpL (hpI (hpL S 1001 y (S.2.2.1 1001 y + lI v)) 1007 y (S.2.1 1007 y + 1)) 1005 y (S.2.2.1 1005 y - lI v)) := ((hX.rf.pL (by decide)).pI (by decide)).pL (by decide)
    refine ⟨_, rfl, key _ w (fun w hw => ?_) ?_ (fun c => ?_), w⟩
    · refine ⟨?_, ?_, rfl, ?_⟩
      · simp [hpL, hpI, up2, hw]
      · simp [hpL, hpI, up2, hw]
      · simp [hpL, hpI, up2, hw]
    · refine Eq.trans (show _ = S.2.2.1 1001 y + lI v by simp [hpL, hpI, up2]) ?_
      rw [hp.lev, lI_add]
    · refine ⟨?_, ?_, ?_⟩
      · refine Eq.trans (show _ = S.2.2.1 1005 y - lI v by simp [hpL, hpI, up2]) ?_
        show _ = lI (if P = P ∧ v < 0 then _ else _)
        rw [if_pos ⟨rfl, by omega⟩, (hp.day c).2.1, lI_sub]
      · refine Eq.trans (show _ = S.2.2.1 1006 y by simp [hpL, hpI, up2]) ?_
        show _ = lI (if P = P ∧ 0 < v then _ else _)
        rw [if_neg (fun c => by omega)]; exact (hp.day c).2.2.1
      · refine Eq.trans (show _ = S.2.1 1007 y + 1 by simp [hpL, hpI, up2]) ?_
        show _ = nI (if P = P ∧ v ≠ 0 then _ else _)
        rw [if_pos ⟨rfl, h0⟩, (hp.day c).2.2.2, nI_add1]
def Z.movH (z : Z) (i : Ins) (ks : List Nat) : Z := (z.1, ((fun P => if P ∈ ks then z.pos P + i.net z.fc P else z.pos P), (fun P => if P ∈ ks ∧ i.net z.fc P < 0 then z.wnt P - i.net z.fc P else z.wnt P), (fun P => if P ∈ ks ∧ 0 < i.net z.fc P then z.cam P + i.net z.fc P else z.cam P), (fun P => if P ∈ ks ∧ i.net z.fc P ≠ 0 then z.mv P + 1 else z.mv P), (fun k => if 16384 + k ∈ ks then z.paid k - i.net z.fc (16384 + k) else z.paid k)), z.2.2)
theorem movH_nil (z : Z) (i : Ins) : z.movH i [] = z := by
  unfold Z.movH
  simp only [List.not_mem_nil, false_and, if_false]
  rfl
theorem movH_step (z : Z) (i : Ins) (ks : List Nat) (P : Nat) (hP : P ∉ ks) : (z.movH i ks).mvH P (i.net z.fc P) = z.movH i (ks ++ [P]) := by
  have hm : ∀ Q, Q ∈ ks ++ [P] ↔ Q ∈ ks ∨ Q = P := fun Q => by rw [List.mem_append, List.mem_singleton]
  refine congrArg (fun t => ((z.1, t, z.2.2) : Z)) ?_
  refine Prod.ext (funext fun Q => ?_) (Prod.ext (funext fun Q => ?_) (Prod.ext (funext fun Q => ?_) (Prod.ext (funext fun Q => ?_) (funext fun k => ?_))))
  · show (if Q = P then (if Q ∈ ks then z.pos Q + i.net z.fc Q else z.pos Q) + i.net z.fc P else (if Q ∈ ks then z.pos Q + i.net z.fc Q else z.pos Q)) = (if Q ∈ ks ++ [P] then z.pos Q + i.net z.fc Q else z.pos Q)
    by_cases h : Q = P
    · subst h
      rw [if_pos rfl, if_neg hP, if_pos ((hm Q).mpr (Or.inr rfl))]
    · rw [if_neg h]
      by_cases h2 : Q ∈ ks
      · rw [if_pos h2, if_pos ((hm Q).mpr (Or.inl h2))]
      · rw [if_neg h2, if_neg (fun c => ((hm Q).mp c).elim h2 h)]
  · show (if Q = P ∧ i.net z.fc P < 0 then (if Q ∈ ks ∧ i.net z.fc Q < 0 then z.wnt Q - i.net z.fc Q else z.wnt Q) - i.net z.fc P else (if Q ∈ ks ∧ i.net z.fc Q < 0 then z.wnt Q - i.net z.fc Q else z.wnt Q)) = (if Q ∈ ks ++ [P] ∧ i.net z.fc Q < 0 then z.wnt Q - i.net z.fc Q else z.wnt Q)
    by_cases h : Q = P
    · subst h
      have : Q ∈ ks ++ [Q] := (hm Q).mpr (Or.inr rfl)
      simp only [this, hP, true_and, false_and, if_false]
    · have : Q ∈ ks ++ [P] ↔ Q ∈ ks := ⟨fun c => ((hm Q).mp c).resolve_right h, fun c => (hm Q).mpr (Or.inl c)⟩
      simp only [h, this, false_and, if_false]
  · show (if Q = P ∧ 0 < i.net z.fc P then (if Q ∈ ks ∧ 0 < i.net z.fc Q then z.cam Q + i.net z.fc Q else z.cam Q) + i.net z.fc P else (if Q ∈ ks ∧ 0 < i.net z.fc Q then z.cam Q + i.net z.fc Q else z.cam Q)) = (if Q ∈ ks ++ [P] ∧ 0 < i.net z.fc Q then z.cam Q + i.net z.fc Q else z.cam Q)
    by_cases h : Q = P
    · subst h
      have : Q ∈ ks ++ [Q] := (hm Q).mpr (Or.inr rfl)
      simp only [this, hP, true_and, false_and, if_false]
    · have : Q ∈ ks ++ [P] ↔ Q ∈ ks := ⟨fun c => ((hm Q).mp c).resolve_right h, fun c => (hm Q).mpr (Or.inl c)⟩
      simp only [h, this, false_and, if_false]
  · show (if Q = P ∧ i.net z.fc P ≠ 0 then (if Q ∈ ks ∧ i.net z.fc Q ≠ 0 then z.mv Q + 1 else z.mv Q) + 1 else (if Q ∈ ks ∧ i.net z.fc Q ≠ 0 then z.mv Q + 1 else z.mv Q)) = (if Q ∈ ks ++ [P] ∧ i.net z.fc Q ≠ 0 then z.mv Q + 1 else z.mv Q)
    by_cases h : Q = P
    · subst h
      have : Q ∈ ks ++ [Q] := (hm Q).mpr (Or.inr rfl)
      simp only [this, hP, true_and, false_and, if_false]
    · have : Q ∈ ks ++ [P] ↔ Q ∈ ks := ⟨fun c => ((hm Q).mp c).resolve_right h, fun c => (hm Q).mpr (Or.inl c)⟩
      simp only [h, this, false_and, if_false]
  · show (if 16384 + k = P then (if 16384 + k ∈ ks then z.paid k - i.net z.fc (16384 + k) else z.paid k) - i.net z.fc P else (if 16384 + k ∈ ks then z.paid k - i.net z.fc (16384 + k) else z.paid k)) = (if 16384 + k ∈ ks ++ [P] then z.paid k - i.net z.fc (16384 + k) else z.paid k)
    by_cases h : 16384 + k = P
    · subst h
      rw [if_pos rfl, if_neg hP, if_pos ((hm _).mpr (Or.inr rfl))]
    · rw [if_neg h]
      by_cases h2 : 16384 + k ∈ ks
      · rw [if_pos h2, if_pos ((hm _).mpr (Or.inl h2))]
      · rw [if_neg h2, if_neg (fun c => ((hm _).mp c).elim h2 h)]
theorem movH_all (z : Z) (i : Ins) (ks : List Nat) (h : ∀ P, P ∈ ks ↔ P ∈ i.pls z.fc) : z.movH i ks = z.mov i := by
  have hm : ∀ P, P ∉ ks → i.net z.fc P = 0 := fun P hP => by
    by_cases h0 : i.net z.fc P = 0
    · exact h0
    · exact absurd ((h P).mpr (net_mem h0)) hP
  refine congrArg (fun t => ((z.1, t, z.2.2) : Z)) ?_
  refine Prod.ext (funext fun Q => ?_) (Prod.ext (funext fun Q => ?_) (Prod.ext (funext fun Q => ?_) (Prod.ext (funext fun Q => ?_) (funext fun k => ?_))))
  · show (if Q ∈ ks then z.pos Q + i.net z.fc Q else z.pos Q) = z.pos Q + i.net z.fc Q
    by_cases h1 : Q ∈ ks
    · rw [if_pos h1]
    · rw [if_neg h1, hm Q h1, Int.add_zero]
  · show (if Q ∈ ks ∧ i.net z.fc Q < 0 then z.wnt Q - i.net z.fc Q else z.wnt Q) = (if i.net z.fc Q < 0 then z.wnt Q - i.net z.fc Q else z.wnt Q)
    by_cases h1 : Q ∈ ks
    · simp only [h1, true_and]
    · rw [if_neg (fun c => h1 c.1), if_neg (by rw [hm Q h1]; omega)]
  · show (if Q ∈ ks ∧ 0 < i.net z.fc Q then z.cam Q + i.net z.fc Q else z.cam Q) = (if 0 < i.net z.fc Q then z.cam Q + i.net z.fc Q else z.cam Q)
    by_cases h1 : Q ∈ ks
    · simp only [h1, true_and]
    · rw [if_neg (fun c => h1 c.1), if_neg (by rw [hm Q h1]; omega)]
  · show (if Q ∈ ks ∧ i.net z.fc Q ≠ 0 then z.mv Q + 1 else z.mv Q) = (if i.net z.fc Q = 0 then z.mv Q else z.mv Q + 1)
    by_cases h1 : Q ∈ ks
    · by_cases h2 : i.net z.fc Q = 0
      · rw [if_neg (fun c => c.2 h2), if_pos h2]
      · rw [if_pos ⟨h1, h2⟩, if_neg h2]
    · rw [if_neg (fun c => h1 c.1), if_pos (hm Q h1)]
  · show (if 16384 + k ∈ ks then z.paid k - i.net z.fc (16384 + k) else z.paid k) = z.paid k - i.net z.fc (16384 + k)
    by_cases h1 : 16384 + k ∈ ks
    · rw [if_pos h1]
    · rw [if_neg h1, hm _ h1, Int.sub_zero]
theorem h_nets_loop {z : Z} {ad : Nat → Option Nat} {x : Nat} {i : Ins} {ks : List Nat} (hok : okN z 0 i) : ∀ (d fu j : Nat) (S : hS), HN S ad z.fc x i ks → HT S (z.movH i (ks.take j)) ad → ks.length - j = d → d < fu → j ≤ ks.length → ∃ S', hl_In_doNets_2 fu x (nI j) S = some S' ∧ HT S' (z.movH i ks) ad ∧ hX [1007] [1001, 1005, 1006] [] [] [] [] S S' := by
  have hl4 := hok.len
  intro d
  induction d with
  | zero =>
    intro fu j S hN hT hd hf hj
    have hle := hN.le
    obtain ⟨fu, rfl⟩ : ∃ f, fu = f + 1 := ⟨fu - 1, by omega⟩
    rw [List.take_of_length_le (by omega)] at hT
    refine ⟨S, ?_, hT, hX.rf⟩
    unfold hl_In_doNets_2
    rw [hN.sz, if_pos (nI_le0 (by omega) (by omega) (by omega))]
  | succ d ih =>
    intro fu j S hN hT hd hf hj
    have hle := hN.le
    obtain ⟨fu, rfl⟩ : ∃ f, fu = f + 1 := ⟨fu - 1, by omega⟩
    obtain ⟨P, hP⟩ := get_lt (ks := ks) (j := j) (by omega)
    obtain ⟨y, e1, e2, e3, e4, e5⟩ := hN.at hok.len hP
    have hb := hok.net P
    have hnt : P ∉ ks.take j := fun c => by
      obtain ⟨j2, q2, q3⟩ := List.mem_take_iff_getElem.mp c
      obtain ⟨q4, q5⟩ := List.getElem?_eq_some_iff.mp hP
      have := (List.getElem_inj hN.nd).mp (q3.trans q5.symm)
      omega
    obtain ⟨S1, m1, m2, m3⟩ := h_moveBy hT e4 (v := i.net z.fc P) (by omega)
    rw [movH_step z i _ P hnt, ← take_snoc hP] at m2
    obtain ⟨S', q1, q2, q3⟩ := ih fu (j + 1) S1 (hN.x m3 (by decide) (by decide) (by simp) (by simp)) m2 (by omega) (by omega) (by omega)
    refine ⟨S', ?_, q2, m3.tr q3⟩
    unfold hl_In_doNets_2
    rw [hN.sz, if_neg (nI_ngt (by omega) (by omega) (by omega)), hN.rc, Option.bind_some, e1, Option.bind_some, hN.rd, Option.bind_some, e2, Option.bind_some, e3, Option.bind_some, e5, m1, Option.bind_some, nI_add1, q1]
theorem h_nets {S : hS} {z : Z} {ad : Nat → Option Nat} {x : Nat} {i : Ins} {ks : List Nat} (hok : okN z 0 i) (hN : HN S ad z.fc x i ks) (hT : HT S z ad) : ∃ S', h_In_doNets x S = some S' ∧ HT S' (z.mov i) ad ∧ hX [1007] [1001, 1005, 1006] [] [] [] [] S S' := by
  have hle := hN.le
  have hl4 := hok.len
  obtain ⟨S', q1, q2, q3⟩ := h_nets_loop hok _ 100000 0 S hN (by rw [List.take_zero, movH_nil]; exact hT) rfl (by omega) (by omega)
  rw [movH_all z i ks hN.mem] at q2
  refine ⟨S', ?_, q2, q3⟩
  unfold h_In_doNets
  rw [show (0 : Int32) = nI 0 from rfl, q1]; rfl
