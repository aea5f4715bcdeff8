/-! Judging: an instruction, a confirmation, a name. -/
def vLeg (z : Z) : List Leg → Nat
  | [] => if z.ins.length = 250 then 12 else 0
  | l :: ls => if l.f = 0 ∨ l.t = 0 ∨ l.f = l.t ∨ l.v = 0 then 8 else vLeg z ls
theorem nI_e0 {a : Nat} (h : a < 2147483648) : nI a = (0 : Int32) ↔ a = 0 := ⟨fun q => nI_inj (b := 0) h (by omega) q, fun q => by rw [q]; rfl⟩
theorem lI_c0 {v : Nat} (h : v < 1000000000000000) : lg_cmp (lI (v : Int)) 0 = 0 ↔ v = 0 := by
  have := cmp_eq0 (a := (v : Int)) (b := 0) (by omega) (by omega)
  rw [show (0 : Int64) = lI 0 from rfl, this]; omega
theorem h_jpay_loop {n : Nat} {S : hS} {z : Z} {g : hG} {q u : List Ins} (hQ : HQ S z g q u) (hO : okZ n z) {ls : List Leg} (hl : ls.length ≤ 4) (h812 : S.2.1 812 2 = nI ls.length) (hLG : LG S ls) (hb : ∀ l ∈ ls, l.f < 256 ∧ l.t < 256 ∧ l.v < 1000000000000000) : ∀ (d fu j : Nat), ls.length - j = d → d < fu → j ≤ ls.length → hl_De_judgePay_2 fu (nI j) S = some (nI (vLeg z (ls.drop j))) := by
  have hql := isq_len hO.q hQ.isq
  have hul := filt_len z.ins
  rw [← hql, ← hQ.isu] at hul
  have hzl := hO.ins
  intro d
  induction d with
  | zero =>
    intro fu j hd hf hj
    obtain ⟨fu, rfl⟩ : ∃ f, fu = f + 1 := ⟨fu - 1, by omega⟩
    unfold hl_De_judgePay_2 h_Qu_isFull
    rw [h812, if_pos (nI_le0 (by omega) (by omega) (by omega)), List.drop_of_length_le (by omega), hQ.qs, hQ.us, nI_add']
    unfold vLeg
    have e : (nI (q.length + u.length) < (250 : Int32)) ↔ q.length + u.length < 250 := nI_lt' (b := 250) (by omega) (by omega)
    by_cases c : z.ins.length = 250
    · rw [if_neg (fun w => by have := e.mp w; omega), Option.bind_some, if_neg (by decide), if_pos c]; rfl
    · rw [if_pos (e.mpr (by omega)), Option.bind_some, if_pos (by decide), if_neg c]; rfl
  | succ d ih =>
    intro fu j hd hf hj
    obtain ⟨fu, rfl⟩ : ∃ f, fu = f + 1 := ⟨fu - 1, by omega⟩
    obtain ⟨l, hlj⟩ := get_lt (ks := ls) (j := j) (by omega)
    obtain ⟨m1, m2, m3, m4⟩ := hLG j l hlj
    obtain ⟨b1, b2, b3⟩ := hb l (List.mem_of_getElem? hlj)
    have i1 : nI j * 3 = nI (3 * j) := by rw [Nat.mul_comm]; exact nI_mul j 3
    have i2 : nI (3 * j) + 1 = nI (3 * j + 1) := nI_add' _ 1
    have IH := ih fu (j + 1) (by omega) (by omega) (by omega)
    unfold hl_De_judgePay_2
    rw [h812, if_neg (nI_ngt (by omega) (by omega) (by omega)), i1, i2, ix_N (by omega) (by omega), Option.bind_some, ix_N (by omega) (by omega), Option.bind_some, m1, m2, drop_cons hlj]
    unfold vLeg
    by_cases c1 : l.f = 0
    · rw [if_pos ((nI_e0 (by omega)).mpr c1), if_pos (Or.inl c1)]; rfl
    · rw [if_neg (fun w => c1 ((nI_e0 (by omega)).mp w))]
      by_cases c2 : l.t = 0
      · rw [if_pos ((nI_e0 (by omega)).mpr c2), if_pos (Or.inr (Or.inl c2))]; rfl
      · rw [if_neg (fun w => c2 ((nI_e0 (by omega)).mp w))]
        by_cases c3 : l.f = l.t
        · rw [if_pos (by rw [c3]), if_pos (Or.inr (Or.inr (Or.inl c3)))]; rfl
        · rw [if_neg (fun w => c3 (nI_inj (by omega) (by omega) w)), ix_N (by omega) (by omega), Option.bind_some, m4]
          by_cases c4 : l.v = 0
          · rw [if_neg (fun w => w ((lI_c0 b3).mpr c4)), if_pos (Or.inr (Or.inr (Or.inr c4)))]; rfl
          · rw [if_pos (fun w => c4 ((lI_c0 b3).mp w)), if_neg (fun w => by rcases w with w | w | w | w; exact c1 w; exact c2 w; exact c3 w; exact c4 w), nI_add1]
            exact IH
theorem d_jpay_loop {n : Nat} {s : mS} {z : Z} (hQ : MQu s z) (hB : MB s z) (hO : okZ n z) {N : Nat} {M : List Nat} (hT : TXT (s.2.2.1 24) N M) (hN : N ≤ 400) {ls : List Leg} (hl : ls.length ≤ 4) (hlN : 17 + 26 * ls.length ≤ N) (hR : LR z M ls) (h16 : s.2.2.1 24 16 - 48 = nI ls.length) (hb : ∀ l ∈ ls, l.f < 256 ∧ l.t < 256 ∧ l.v < 1000000000000000) : ∀ (d fu j : Nat), ls.length - j = d → d < fu → j ≤ ls.length → l_Mo_legsFault_2 fu (nI j) s = some (nI (vLeg z (ls.drop j))) := by
  have hzl := hO.ins
  have hm := hO.mem
  intro d
  induction d with
  | zero =>
    intro fu j hd hf hj
    obtain ⟨fu, rfl⟩ : ∃ f, fu = f + 1 := ⟨fu - 1, by omega⟩
    unfold l_Mo_legsFault_2
    rw [show am_ix 16 400 = some 16 from by decide, Option.bind_some, h16, if_pos (nI_le0 (by omega) (by omega) (by omega)), List.drop_of_length_le (by omega), hQ.many]
    unfold vLeg
    by_cases c : z.ins.length = 250
    · rw [if_neg (fun w => w (by rw [c]; rfl)), if_pos c]; rfl
    · rw [if_pos (show ¬ nI z.ins.length = (250 : Int32) from fun w => c (nI_inj (b := 250) (by omega) (by omega) w)), if_neg c]; rfl
  | succ d ih =>
    intro fu j hd hf hj
    obtain ⟨fu, rfl⟩ : ∃ f, fu = f + 1 := ⟨fu - 1, by omega⟩
    obtain ⟨l, hlj⟩ := get_lt (ks := ls) (j := j) (by omega)
    obtain ⟨r1, r2, r3, r4, r5⟩ := hR j l hlj
    obtain ⟨b1, b2, b3⟩ := hb l (List.mem_of_getElem? hlj)
    have i1 : 17 + 26 * nI j = nI (17 + 26 * j) := by rw [show (26 : Int32) = nI 26 from rfl, nI_mul, show (17 : Int32) = nI 17 from rfl, nI_add']
    have i2 : nI (17 + 26 * j) + 4 = nI (17 + 26 * j + 4) := nI_add' _ 4
    have i4 : nI (17 + 26 * j) + 11 = nI (17 + 26 * j + 11) := nI_add' _ 11
    have d1 := d_mem hT hN hB hm.2 hO.cod (17 + 26 * j) (by omega)
    have d2 := d_mem hT hN hB hm.2 hO.cod (17 + 26 * j + 4) (by omega)
    have d4 := d_nmb hT hN (17 + 26 * j + 11) 15 (by omega) r4
    rw [r1] at d1
    rw [r2] at d2
    rw [r5] at d4
    have d1' : d_Mo_memberAt (nI (17 + 26 * j)) s = some (nI l.f) := d1
    have d2' : d_Mo_memberAt (nI (17 + 26 * j + 4)) s = some (nI l.t) := d2
    have d4' : d_Mo_number (nI (17 + 26 * j + 11)) 15 s = some (lI (l.v : Int)) := d4
    have IH := ih fu (j + 1) (by omega) (by omega) (by omega)
    unfold l_Mo_legsFault_2
    rw [show am_ix 16 400 = some 16 from by decide, Option.bind_some, h16, if_neg (nI_ngt (by omega) (by omega) (by omega)), i1, i2, i4, d1', Option.bind_some, d2', Option.bind_some, drop_cons hlj]
    unfold vLeg
    by_cases c1 : l.f = 0
    · rw [if_pos ((nI_e0 (by omega)).mpr c1), if_pos (Or.inl c1)]; rfl
    · rw [if_neg (fun w => c1 ((nI_e0 (by omega)).mp w))]
      by_cases c2 : l.t = 0
      · rw [if_pos ((nI_e0 (by omega)).mpr c2), if_pos (Or.inr (Or.inl c2))]; rfl
      · rw [if_neg (fun w => c2 ((nI_e0 (by omega)).mp w))]
        by_cases c3 : l.f = l.t
        · rw [if_pos (by rw [c3]), if_pos (Or.inr (Or.inr (Or.inl c3)))]; rfl
        · rw [if_neg (fun w => c3 (nI_inj (by omega) (by omega) w)), d4', Option.bind_some]
          by_cases c4 : l.v = 0
          · rw [if_neg (fun w => w ((lI_c0 b3).mpr c4)), if_pos (Or.inr (Or.inr (Or.inr c4)))]; rfl
          · rw [if_pos (fun w => c4 ((lI_c0 b3).mp w)), if_neg (fun w => by rcases w with w | w | w | w; exact c1 w; exact c2 w; exact c3 w; exact c4 w), nI_add1]
            exact IH
/-- does it await p -/
def cfB (i : Ins) (p : Nat) : Bool := i.legs.any fun l => decide (l.f = p) && !(i.ag.contains l.f)
theorem cfB_iff {i : Ins} {p : Nat} : cfB i p = true ↔ (∃ l ∈ i.legs, l.f = p) ∧ p ∉ i.ag := by
  unfold cfB
  rw [List.any_eq_true]
  constructor
  · rintro ⟨l, h1, h2⟩
    rw [Bool.and_eq_true, decide_eq_true_iff] at h2
    obtain ⟨h3, h4⟩ := h2
    refine ⟨⟨l, h1, h3⟩, fun c => ?_⟩
    rw [h3] at h4
    simp [c] at h4
  · rintro ⟨⟨l, h1, h2⟩, h3⟩
    refine ⟨l, h1, ?_⟩
    rw [Bool.and_eq_true, decide_eq_true_iff]
    refine ⟨h2, ?_⟩
    rw [h2]
    simp [h3]
def vCnf (z : Z) (w : Nat) (nm : List Nat) (p : Nat) : Nat := match z.opn w nm with
  | none => 11
  | some i => if cfB i p then 0 else 8
theorem h_jcnf {n : Nat} {S : hS} {z : Z} {g : hG} {q u : List Ins} (hB : HB S z g) (hQ : HQ S z g q u) (hO : okZ n z) {w : Nat} {nm : List Nat} (hw : w < 256) (hn : nm.length = 8) (h36 : is36 nm) (e5 : S.2.2.2.2.1 5 0 = nI w) (e818 : S.2.2.1 818 2 = lI (b36 nm : Nat)) {p : Nat} (e813 : S.2.1 813 2 = nI p) (hp : p < 256) : h_De_judgeConfirmation S = some (nI (vCnf z w nm p)) := by
  unfold h_De_judgeConfirmation vCnf
  rw [show am_ix 0 12 = some 0 from by decide, Option.bind_some, e5, e818, h_find hB hQ hO hw hn h36, Option.bind_some]
  cases hop : z.opn w nm with
  | none => rw [Option.map_none, if_pos rfl]; rfl
  | some i =>
    obtain ⟨hi, _, _⟩ := opn_some hop
    have hk := hO.oki i hi
    have hm := hO.mem
    obtain ⟨ws, hW⟩ := (hQ.ins i hi).awt
    rw [Option.map_some, if_neg (by simp), Option.bind_some, e813, h_awaits hW hk.len.2 hp (fun v hv => by
      obtain ⟨⟨l, hl1, hl2⟩, _⟩ := (hW.mem v).mp hv
      have := (hk.lg l hl1).f
      omega), Option.bind_some]
    show _ = some (nI (if cfB i p then 0 else 8))
    cases hc : cfB i p with
    | true => rw [decide_eq_true ((hW.mem p).mpr (cfB_iff.mp hc)), if_neg (by decide), if_pos rfl]; rfl
    | false => rw [decide_eq_false (fun c => by have := cfB_iff.mpr ((hW.mem p).mp c); rw [hc] at this; cases this), if_pos (by decide), if_neg (by decide)]; rfl
theorem d_jcnf_loop {s : mS} {k p : Nat} {i : Ins} (hI : MI s k i) (hk : k < 250) (hl : i.legs.length ≤ 4) (hp : p < 256) (hf : ∀ l ∈ i.legs, l.f < 256) (h5 : s.1 5 = nI p) : ∀ (d fu j : Nat) (b : Bool), i.legs.length - j = d → d < fu → j ≤ i.legs.length → l_Mo_confirmFault_30 fu (nI k) (b2i b) (nI j) s = some (b2i (b || (i.legs.drop j).any fun l => decide (l.f = p) && !(i.ag.contains l.f))) := by
  intro d
  induction d with
  | zero =>
    intro fu j b hd hf' hj
    obtain ⟨fu, rfl⟩ : ∃ f, fu = f + 1 := ⟨fu - 1, by omega⟩
    unfold l_Mo_confirmFault_30
    rw [ix_N (by omega) (by omega), Option.bind_some, hI.len, if_pos (nI_le0 (by omega) (by omega) (by omega)), List.drop_of_length_le (by omega), List.any_nil, Bool.or_false]
  | succ d ih =>
    intro fu j b hd hf' hj
    obtain ⟨fu, rfl⟩ : ∃ f, fu = f + 1 := ⟨fu - 1, by omega⟩
    obtain ⟨l, hlj⟩ := get_lt (ks := i.legs) (j := j) (by omega)
    obtain ⟨a1, a2, a3, a4, a5⟩ := hI.lg j l hlj
    have hlf := hf l (List.mem_of_getElem? hlj)
    have i1 : 4 * nI k + nI j = nI (4 * k + j) := by rw [show (4 : Int32) = nI 4 from rfl, nI_mul, nI_add']
    have IH := fun b => ih fu (j + 1) b (by omega) (by omega) (by omega)
    unfold l_Mo_confirmFault_30
    rw [ix_N (by omega) (by omega), Option.bind_some, hI.len, if_neg (nI_ngt (by omega) (by omega) (by omega)), i1, ix_N (by omega) (by omega), Option.bind_some, a1, a5, h5, nI_add1, drop_cons hlj, List.any_cons]
    cases b with
    | true =>
      rw [if_pos (by decide), Option.bind_some, Bool.true_or]
      have := IH true
      rw [Bool.true_or] at this
      exact this
    | false =>
      rw [if_neg (by decide), Bool.false_or]
      by_cases c : l.f = p
      · rw [if_neg (fun w => w (by rw [c])), decide_eq_true c, Bool.true_and]
        cases hc : i.ag.contains l.f with
        | true =>
          rw [if_pos (by decide), Option.bind_some]
          exact IH false
        | false =>
          rw [if_neg (by decide), Option.bind_some]
          exact IH true
      · rw [if_pos (fun w => c (nI_inj (by omega) (by omega) w)), Option.bind_some, decide_eq_false c, Bool.false_and]
        exact IH false
