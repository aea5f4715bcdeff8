/-! The class builds an instruction: its nets. -/
def NR (S : hS) (ad : Nat → Option Nat) (x m : Nat) (ks : List Nat) (nt : Nat → Int) : Prop := (S.2.2.2.1 708 x = some (x + 2)) ∧ (S.1[x + 2]? = some (26, 4 * m)) ∧ (S.2.2.2.1 709 x = some (x + 3)) ∧ (S.1[x + 3]? = some (21, 4 * m)) ∧ (S.2.1 710 x = nI ks.length) ∧ (ks.Nodup) ∧ (∀ (j P : Nat), ks[j]? = some P → ∃ y, S.2.2.2.2.2.2 (x + 2) j = some y ∧ ad P = some y ∧ S.2.2.2.2.2.1 (x + 3) j = lI (nt P)) ∧ (∀ P, P ∉ ks → nt P = 0)
theorem NR.rc {S : hS} {ad : Nat → Option Nat} {x m : Nat} {ks : List Nat} {nt : Nat → Int} (h : NR S ad x m ks nt) : S.2.2.2.1 708 x = some (x + 2) := h.1
theorem NR.kc {S : hS} {ad : Nat → Option Nat} {x m : Nat} {ks : List Nat} {nt : Nat → Int} (h : NR S ad x m ks nt) : S.1[x + 2]? = some (26, 4 * m) := h.2.1
theorem NR.rd {S : hS} {ad : Nat → Option Nat} {x m : Nat} {ks : List Nat} {nt : Nat → Int} (h : NR S ad x m ks nt) : S.2.2.2.1 709 x = some (x + 3) := h.2.2.1
theorem NR.kd {S : hS} {ad : Nat → Option Nat} {x m : Nat} {ks : List Nat} {nt : Nat → Int} (h : NR S ad x m ks nt) : S.1[x + 3]? = some (21, 4 * m) := h.2.2.2.1
theorem NR.sz {S : hS} {ad : Nat → Option Nat} {x m : Nat} {ks : List Nat} {nt : Nat → Int} (h : NR S ad x m ks nt) : S.2.1 710 x = nI ks.length := h.2.2.2.2.1
theorem NR.nd {S : hS} {ad : Nat → Option Nat} {x m : Nat} {ks : List Nat} {nt : Nat → Int} (h : NR S ad x m ks nt) : ks.Nodup := h.2.2.2.2.2.1
theorem NR.row {S : hS} {ad : Nat → Option Nat} {x m : Nat} {ks : List Nat} {nt : Nat → Int} (h : NR S ad x m ks nt) : ∀ (j P : Nat), ks[j]? = some P → ∃ y, S.2.2.2.2.2.2 (x + 2) j = some y ∧ ad P = some y ∧ S.2.2.2.2.2.1 (x + 3) j = lI (nt P) := h.2.2.2.2.2.2.1
theorem NR.out {S : hS} {ad : Nat → Option Nat} {x m : Nat} {ks : List Nat} {nt : Nat → Int} (h : NR S ad x m ks nt) : ∀ P, P ∉ ks → nt P = 0 := h.2.2.2.2.2.2.2
theorem h_addNet_loop {S : hS} {ad : Nat → Option Nat} {x m : Nat} {ks : List Nat} {nt : Nat → Int} (h : NR S ad x m ks nt) (hinj : ∀ P Q y, ad P = some y → ad Q = some y → P = Q) (hm : m ≤ 4) {P y : Nat} (hy : ad P = some y) (hl : P ∈ ks ∨ ks.length < 4 * m) (hle : ks.length ≤ 4 * m) (v : Int) : ∀ (d fu j : Nat), ks.length - j = d → d < fu → j ≤ ks.length → P ∉ ks.take j → ∃ S', hl_In_addToNet_3 fu x y (lI v) (nI j) S = some S' ∧ NR S' ad x m (addK ks P) (fun Q => if Q = P then nt Q + v else nt Q) ∧ hX [710] [] [] [] [x + 3] [x + 2] S S' ∧ (∀ w, w ≠ x → S'.2.1 710 w = S.2.1 710 w) := by
  intro d
  induction d with
  | zero =>
    intro fu j hd hf hj hn
    obtain ⟨fu, rfl⟩ : ∃ f, fu = f + 1 := ⟨fu - 1, by omega⟩
    rw [List.take_of_length_le (by omega)] at hn
    have hlt := hl.resolve_left hn
    have e : j = ks.length := by omega
    subst e
    obtain ⟨S2, hS2⟩ : ∃ S2, S2 = hpI (hpB (hpQ S (x + 2) ks.length (some y)) (x + 3) ks.length (lI v)) 710 x (nI (ks.length + 1)) := ⟨_, rfl⟩
    have w : hX [710] [] [] [] [x + 3] [x + 2] S S2 := by rw [hS2]; exact ((hX.rf.pQ (by simp)).pB (by simp)).pI (by simp)
    have ak : addK ks P = ks ++ [P] := if_neg hn
    refine ⟨S2, ?_, ⟨(w.er _ (by simp) _).trans h.rc, by rw [w.sh]; exact h.kc, (w.er _ (by simp) _).trans h.rd, by rw [w.sh]; exact h.kd, ?_, nodup_addK h.nd, fun t Q ht => ?_, fun Q hQ => ?_⟩, w, fun w' hw => by rw [hS2]; simp [hpI, hpB, hpQ, up2, hw]⟩
    · unfold hl_In_addToNet_3
      rw [h.sz, if_pos (nI_le0 (by omega) (by omega) (by omega)), h.rc, Option.bind_some, hln_of h.kc, if_neg (show ¬ Int32.ofNat (4 * m) ≤ nI ks.length from nI_ngt (by omega) (by omega) hlt), ix_N (by omega) (by omega), Option.bind_some, h.rd, Option.bind_some, hln_of h.kd, ix_N (by omega) (by omega), Option.bind_some, nI_add1, hS2]
    · rw [ak, List.length_append, List.length_singleton, hS2]; simp [hpI, up2]
    · rw [ak] at ht
      have eq : ∀ t, S2.2.2.2.2.2.2 (x + 2) t = if t = ks.length then some y else S.2.2.2.2.2.2 (x + 2) t := fun t => by
        rw [hS2]
        show up2 S.2.2.2.2.2.2 (x + 2) ks.length (some y) (x + 2) t = _
        rw [up2_at]
      have eb : ∀ t, S2.2.2.2.2.2.1 (x + 3) t = if t = ks.length then lI v else S.2.2.2.2.2.1 (x + 3) t := fun t => by
        rw [hS2]
        show up2 S.2.2.2.2.2.1 (x + 3) ks.length (lI v) (x + 3) t = _
        rw [up2_at]
      rcases get_snoc' ht with c | ⟨c1, c2⟩
      · have := get_lt' c
        obtain ⟨y', r1, r2, r3⟩ := h.row t Q c
        have hQP : Q ≠ P := fun q => hn (by rw [← q]; exact List.mem_of_getElem? c)
        exact ⟨y', by rw [eq, if_neg (by omega)]; exact r1, r2, by rw [eb, if_neg (by omega)]; exact r3.trans (congrArg lI (if_neg hQP).symm)⟩
      · subst c2
        refine ⟨y, by rw [eq, if_pos c1], hy, ?_⟩
        rw [eb, if_pos c1]
        exact congrArg lI (show v = if Q = Q then nt Q + v else nt Q by rw [if_pos rfl, h.out _ hn, Int.zero_add])
    · rw [mem_addK] at hQ
      exact (if_neg (fun q => hQ (Or.inr q))).trans (h.out Q (fun q => hQ (Or.inl q)))
  | succ d ih =>
    intro fu j hd hf hj hn
    obtain ⟨fu, rfl⟩ : ∃ f, fu = f + 1 := ⟨fu - 1, by omega⟩
    obtain ⟨R, hR⟩ := get_lt (ks := ks) (j := j) (by omega)
    obtain ⟨y', r1, r2, r3⟩ := h.row j R hR
    by_cases e : R = P
    · subst e
      rw [hy] at r2; cases r2
      have ak : addK ks R = ks := if_pos (List.mem_of_getElem? hR)
      obtain ⟨S2, hS2⟩ : ∃ S2, S2 = hpB S (x + 3) j (lI (nt R) + lI v) := ⟨_, rfl⟩
      have w : hX [710] [] [] [] [x + 3] [x + 2] S S2 := by rw [hS2]; exact hX.rf.pB (by simp)
      refine ⟨S2, ?_, ⟨(w.er _ (by simp) _).trans h.rc, by rw [w.sh]; exact h.kc, (w.er _ (by simp) _).trans h.rd, by rw [w.sh]; exact h.kd, by rw [ak, hS2]; exact h.sz, nodup_addK h.nd, fun t Q ht => ?_, fun Q hQ => ?_⟩, w, fun w' hw => by rw [hS2]; rfl⟩
      · unfold hl_In_addToNet_3
        rw [h.sz, if_neg (nI_ngt (by omega) (by omega) (by omega)), h.rc, Option.bind_some, hln_of h.kc, ix_N (by omega) (by omega), Option.bind_some, r1, Option.bind_some, if_pos rfl, h.rd, Option.bind_some, hln_of h.kd, ix_N (by omega) (by omega), Option.bind_some, r3, hS2]
      · rw [ak] at ht
        obtain ⟨y2, q1, q2, q3⟩ := h.row t Q ht
        refine ⟨y2, by rw [hS2]; exact q1, q2, ?_⟩
        rw [hS2]
        show up2 S.2.2.2.2.2.1 (x + 3) j (lI (nt R) + lI v) (x + 3) t = _
        rw [up2_at]
        by_cases c : t = j
        · subst c
          rw [hR] at ht; cases ht
          rw [if_pos rfl, lI_add]
          exact congrArg lI (if_pos rfl).symm
        · have hQR : Q ≠ R := fun q => by
            rw [q] at ht
            obtain ⟨y1, z1⟩ := List.getElem?_eq_some_iff.mp ht
            obtain ⟨y3, z3⟩ := List.getElem?_eq_some_iff.mp hR
            exact c ((List.getElem_inj h.nd).mp (z1.trans z3.symm))
          rw [if_neg c]; exact q3.trans (congrArg lI (if_neg hQR).symm)
      · rw [mem_addK] at hQ
        exact (if_neg (fun q => hQ (Or.inr q))).trans (h.out Q (fun q => hQ (Or.inl q)))
    · have hyne : ¬ (some y' = some y) := fun q => by
        cases q
        exact e (hinj R P _ r2 hy)
      obtain ⟨S', a1, a2, a3, a4⟩ := ih fu (j + 1) (by omega) (by omega) (by omega) (fun c => by
        rw [take_snoc hR, List.mem_append, List.mem_singleton] at c
        exact c.elim hn (fun w => e w.symm))
      refine ⟨S', ?_, a2, a3, a4⟩
      unfold hl_In_addToNet_3
      rw [h.sz, if_neg (nI_ngt (by omega) (by omega) (by omega)), h.rc, Option.bind_some, hln_of h.kc, ix_N (by omega) (by omega), Option.bind_some, r1, Option.bind_some, if_neg hyne, nI_add1, a1]
theorem h_addNet {S : hS} {ad : Nat → Option Nat} {x m : Nat} {ks : List Nat} {nt : Nat → Int} (h : NR S ad x m ks nt) (hinj : ∀ P Q y, ad P = some y → ad Q = some y → P = Q) (hm : m ≤ 4) {P y : Nat} (hy : ad P = some y) (hle : ks.length < 4 * m) (v : Int) : ∃ S', h_In_addToNet x y (lI v) S = some S' ∧ NR S' ad x m (addK ks P) (fun Q => if Q = P then nt Q + v else nt Q) ∧ hX [710] [] [] [] [x + 3] [x + 2] S S' ∧ (∀ w, w ≠ x → S'.2.1 710 w = S.2.1 710 w) := by
  obtain ⟨S', a1, a2, a3, a4⟩ := h_addNet_loop h hinj hm hy (Or.inr hle) (by omega) v _ 100000 0 rfl (by omega) (by omega) (by simp)
  exact ⟨S', a1, a2, a3, a4⟩
theorem NR.f {S S' : hS} {ad ad' : Nat → Option Nat} {x m : Nat} {ks : List Nat} {nt : Nat → Int} (h : NR S ad x m ks nt) (w : BF S S') (hf : hE hs_fix S.1) (k1 : S.1[x + 1]? = some (20, m)) (hx : x < S.1.length) (ext : ∀ P y, ad P = some y → ad' P = some y) : NR S' ad' x m ks nt := by
  refine ⟨(w.r _ _ (by decide) hx).trans h.rc, w.sh.get h.kc, (w.r _ _ (by decide) hx).trans h.rd, w.sh.get h.kd, (w.i _ _ (by decide) hx).trans h.sz, h.nd, fun j P hj => ?_, h.out⟩
  obtain ⟨y, r1, r2, r3⟩ := h.row j P hj
  refine ⟨y, ?_, ext P y r2, ?_⟩
  · rw [w.q _ (len_get h.kc) (nbk hf h.kc (by decide) (by decide) (by decide) (fun b hb c => by
      have : b = x + 1 := by omega
      rw [this, k1] at c; cases c))]; exact r1
  · rw [w.b _ (len_get h.kd)]; exact r3
/-! Books and rows that are not theirs. -/
theorem HM.xk {ki kl kr ka kb kq : List Nat} {S S' : hS} {z : Z} {g : hG} {p : Nat} {c : List Nat} (h : HM S z g p c) (w : hX ki kl kr ka kb kq S S') (hq : ∀ k ∈ kq, ¬ bk S.1 k) (h1 : 900 ∉ ki ∧ 901 ∉ ki ∧ 1301 ∉ ki) (h2 : 904 ∉ kl) (h3 : 902 ∉ kr ∧ 903 ∉ kr ∧ 1300 ∉ kr) : HM S' z g p c := by
  have nq : ∀ {b}, bk S.1 b → b ∉ kq := fun {b} hb hm => hq b hm hb
  obtain ⟨e, ts, a1, a2, a3, a4, a5, a6, a7, a8⟩ := h.rom
  refine ⟨(w.eq _ (nq (Or.inl rfl)) _).trans h.at, by rw [w.sh]; exact h.k, (w.ei _ h1.1 _).trans h.cod, (w.ei _ h1.2.1 _).trans h.bnk, (w.el _ h2 _).trans h.crd, (w.er _ h3.1 _).trans h.acr, by rw [w.sh]; exact h.ack, fun a ha => (w.eq _ (nq (Or.inr (Or.inr (Or.inr ⟨_, rfl, h.k⟩)))) _).trans (h.acc a ha), (w.er _ h3.2.1 _).trans h.rlr, by rw [w.sh]; exact h.rlk, e, ts, (w.er _ h3.2.2 _).trans a1, by rw [w.sh]; exact a2, by rw [w.sh]; exact a3, (w.ei _ h1.2.2 _).trans a4, by rw [w.sh]; exact a5, a6, fun j t hj => ?_, a8⟩
  obtain ⟨b1, y, b2, b3⟩ := a7 j t hj
  refine ⟨b1, y, ?_, b3⟩
  rcases a2 with rfl | hk
  · exfalso
    have := get_lt' hj
    unfold hlq at a5
    rw [if_pos rfl] at a5
    omega
  · exact (w.eq _ (nq (Or.inr (Or.inr (Or.inl hk.1)))) _).trans b2
theorem HB.xk {ki kl kr ka kb kq : List Nat} {S S' : hS} {z : Z} {g : hG} (h : HB S z g) (w : hX ki kl kr ka kb kq S S') (hq : ∀ k ∈ kq, ¬ bk S.1 k) (h1 : 900 ∉ ki ∧ 901 ∉ ki ∧ 1301 ∉ ki ∧ 401 ∉ ki ∧ 403 ∉ ki ∧ 404 ∉ ki ∧ 405 ∉ ki ∧ 300 ∉ ki ∧ 301 ∉ ki ∧ 303 ∉ ki) (h1' : 1000 ∉ ki ∧ 1002 ∉ ki ∧ 1007 ∉ ki) (h2 : kl = []) (h3 : kr = []) : HB S' z g := by
  subst h2 h3
  refine ⟨by rw [w.sh]; exact h.fix, h.tab.x w h1' (by simp), (w.ei _ h1.2.2.2.1 _).trans h.mem, fun p c hp => (h.par p c hp).xk w hq ⟨h1.1, h1.2.1, h1.2.2.1⟩ (by simp) (by simp), h.pin, fun p q e hp hq' a b => ?_, (w.ei _ h1.2.2.2.2.1 _).trans h.asn, fun a x hx => ?_, h.ain, (w.ei _ h1.2.2.2.2.2.1 _).trans h.fir, (w.ei _ h1.2.2.2.2.2.2.1 _).trans h.lims, (w.el _ (by simp) _).trans h.all⟩
  · rw [w.er _ (by simp)] at a b
    exact h.rin p q e hp hq' a b
  · have hA := h.ast a x hx
    exact ⟨(w.eq _ (fun c => hq 12 c (Or.inr (Or.inl rfl))) _).trans hA.at, by rw [w.sh]; exact hA.k, (w.ei _ h1.2.2.2.2.2.2.2.1 _).trans hA.cod, (w.ei _ h1.2.2.2.2.2.2.2.2.1 _).trans hA.sec, (w.el _ (by simp) _).trans hA.prc, (w.ei _ h1.2.2.2.2.2.2.2.2.2 _).trans hA.cut⟩
