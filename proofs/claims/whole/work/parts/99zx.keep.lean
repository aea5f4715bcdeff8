/-! What leaves the picture as it is. -/
abbrev gI : List Nat := [1, 201, 202, 503, 504, 600, 601, 602, 603, 801, 802, 803, 804, 805, 810, 812, 813, 814, 815, 816, 817, 1200, 1401, 1402]
abbrev gL : List Nat := [806, 818, 1201]
abbrev gR : List Nat := [1202, 1400]
abbrev gA : List Nat := [1, 3, 4, 5, 8]
def GW (S S' : hS) : Prop := (hE S.1 S'.1) ∧ (∀ k a, k ∉ gI → a < S.1.length → S'.2.1 k a = S.2.1 k a) ∧ (∀ k a, k ∉ gL → a < S.1.length → S'.2.2.1 k a = S.2.2.1 k a) ∧ (∀ k a, k ∉ gR → a < S.1.length → S'.2.2.2.1 k a = S.2.2.2.1 k a) ∧ (∀ a, a ∉ gA → a < S.1.length → S'.2.2.2.2.1 a = S.2.2.2.2.1 a) ∧ (∀ a, a ≠ 6 → a < S.1.length → S'.2.2.2.2.2.1 a = S.2.2.2.2.2.1 a) ∧ (∀ a, ¬ hK S.1 a 29 → a < S.1.length → S'.2.2.2.2.2.2 a = S.2.2.2.2.2.2 a)
theorem GW.sh {S S' : hS} (h : GW S S') : hE S.1 S'.1 := h.1
theorem GW.i {S S' : hS} (h : GW S S') : ∀ k a, k ∉ gI → a < S.1.length → S'.2.1 k a = S.2.1 k a := h.2.1
theorem GW.l {S S' : hS} (h : GW S S') : ∀ k a, k ∉ gL → a < S.1.length → S'.2.2.1 k a = S.2.2.1 k a := h.2.2.1
theorem GW.r {S S' : hS} (h : GW S S') : ∀ k a, k ∉ gR → a < S.1.length → S'.2.2.2.1 k a = S.2.2.2.1 k a := h.2.2.2.1
theorem GW.a {S S' : hS} (h : GW S S') : ∀ a, a ∉ gA → a < S.1.length → S'.2.2.2.2.1 a = S.2.2.2.2.1 a := h.2.2.2.2.1
theorem GW.b {S S' : hS} (h : GW S S') : ∀ a, a ≠ 6 → a < S.1.length → S'.2.2.2.2.2.1 a = S.2.2.2.2.2.1 a := h.2.2.2.2.2.1
theorem GW.q {S S' : hS} (h : GW S S') : ∀ a, ¬ hK S.1 a 29 → a < S.1.length → S'.2.2.2.2.2.2 a = S.2.2.2.2.2.2 a := h.2.2.2.2.2.2
theorem GW.ofX {ki kl kr ka kb kq : List Nat} {S S' : hS} (w : hX ki kl kr ka kb kq S S') (h1 : ∀ k ∈ ki, k ∈ gI) (h2 : ∀ k ∈ kl, k ∈ gL) (h3 : ∀ k ∈ kr, k ∈ gR) (h4 : ∀ k ∈ ka, k ∈ gA) (h5 : ∀ k ∈ kb, k = 6) (h6 : kq = []) : GW S S' := by
  subst h6
  exact ⟨by rw [w.sh]; exact hE.rf, fun k a hk _ => w.ei k (fun q => hk (h1 k q)) a, fun k a hk _ => w.el k (fun q => hk (h2 k q)) a, fun k a hk _ => w.er k (fun q => hk (h3 k q)) a, fun a ha _ => w.a a (fun q => ha (h4 a q)), fun a ha _ => w.b a (fun q => ha (h5 a q)), fun a _ _ => w.q a (by simp)⟩
section
variable {S S' : hS} {z : Z} {g : hG}
theorem HP.w {P x : Nat} (h : HP S z P x) (w : GW S S') : HP S' z P x := by
  have hx := len_get h.k
  refine ⟨w.sh.get h.k, by rw [w.l 1001 x (by decide) hx]; exact h.lev, by rw [w.i 1002 x (by decide) hx]; exact h.fld, fun c => by rw [w.l 1003 x (by decide) hx]; exact h.flr c, fun c => ?_, fun c => by rw [w.i 1000 x (by decide) hx]; exact h.tow c⟩
  rw [w.l 1004 x (by decide) hx, w.l 1005 x (by decide) hx, w.l 1006 x (by decide) hx, w.i 1007 x (by decide) hx]
  exact h.day c
theorem nk29 {sh : List (Nat × Nat)} {x k n : Nat} (h : sh[x]? = some (k, n)) (hk : k ≠ 29) : ¬ hK sh x 29 := fun ⟨m, c⟩ => by
  rw [h] at c; cases c; exact hk rfl
theorem HM.w {p : Nat} {c : List Nat} (h : HM S z g p c) (hf : hE hs_fix S.1) (w : GW S S') : HM S' z g p c := by
  have h1 := len_get h.k
  have h2 := len_get h.ack
  have h3 := len_get h.rlk
  have h11 : 11 < S.1.length := fix_lt hf (by omega)
  have k11 : S.1[11]? = some (24, 256) := hf.get rfl
  refine ⟨by rw [w.q 11 (nk29 k11 (by decide)) h11]; exact h.at, w.sh.get h.k, by rw [w.i 900 _ (by decide) h1]; exact h.cod, by rw [w.i 901 _ (by decide) h1]; exact h.bnk, by rw [w.l 904 _ (by decide) h1]; exact h.crd, by rw [w.r 902 _ (by decide) h1]; exact h.acr, w.sh.get h.ack, fun a ha => by rw [w.q _ (nk29 h.ack (by decide)) h2]; exact h.acc a ha, by rw [w.r 903 _ (by decide) h1]; exact h.rlr, w.sh.get h.rlk, ?_⟩
  refine h.rom.f w.sh (w.r 1300 _ (by decide) h3) (w.i 1301 _ (by decide) h3) (fun e _ ⟨m, he⟩ => w.q e (nk29 he (by decide)) (len_get he)) (fun _ _ => rfl)
theorem HA.w {a : Nat} {x : Ast} (h : HA S g a x) (hf : hE hs_fix S.1) (w : GW S S') : HA S' g a x := by
  have h1 := len_get h.k
  have k12 : S.1[12]? = some (25, 64) := hf.get rfl
  exact ⟨by rw [w.q 12 (nk29 k12 (by decide)) (len_get k12)]; exact h.at, w.sh.get h.k, by rw [w.i 300 _ (by decide) h1]; exact h.cod, by rw [w.i 301 _ (by decide) h1]; exact h.sec, by rw [w.l 302 _ (by decide) h1]; exact h.prc, by rw [w.i 303 _ (by decide) h1]; exact h.cut⟩
theorem HB.w (h : HB S z g) (w : GW S S') : HB S' z g := by
  have hf := h.fix
  have h10 : 10 < S.1.length := fix_lt hf (by omega)
  refine ⟨hf.tr w.sh, ⟨fun P x e => (h.tab.pos P x e).w w, h.tab.inr, h.tab.inj, h.tab.acc0, h.tab.rom0⟩, by rw [w.i 401 10 (by decide) h10]; exact h.mem, fun p c hc => (h.par p c hc).w hf w, h.pin, fun p q e hp hq e1 e2 => ?_, by rw [w.i 403 10 (by decide) h10]; exact h.asn, fun a x hx => (h.ast a x hx).w hf w, h.ain, by rw [w.i 404 10 (by decide) h10]; exact h.fir, by rw [w.i 405 10 (by decide) h10]; exact h.lims, by rw [w.l 406 10 (by decide) h10]; exact h.all⟩
  obtain ⟨c1, _, m1⟩ := h.p hp
  obtain ⟨c2, _, m2⟩ := h.p hq
  rw [w.r 1300 _ (by decide) (len_get m1.rlk)] at e1
  rw [w.r 1300 _ (by decide) (len_get m2.rlk)] at e2
  exact h.rin p q e hp hq e1 e2
theorem HE.w {mem : List (List Nat)} {x : Nat} {i : Ins} (h : HE S mem x i) (w : GW S S') : HE S' mem x i := by
  have hx := len_get h.k
  exact ⟨w.sh.get h.k, by rw [w.i 701 x (by decide) hx]; exact h.cod, by rw [w.l 702 x (by decide) hx]; exact h.nm⟩
theorem HI.w {ad : Nat → Option Nat} {x : Nat} {i : Ins} (h : HI S z ad x i) (hf : hE hs_fix S.1) (w : GW S S') : HI S' z ad x i := by
  have hk := h.e.k
  have hx := len_get hk
  have fx : ∀ {a k n : Nat}, hs_fix[a]? = some (k, n) → k ≠ 7 → x ≠ a := fun {a k n} ha hk7 q => by
    have := hf.get ha
    rw [← q, hk] at this
    cases this; exact hk7 rfl
  obtain ⟨ks, n⟩ := h.net
  obtain ⟨ws, v⟩ := h.awt
  refine ⟨h.e.w w, by rw [w.i 700 x (by decide) hx]; exact h.who, by rw [w.i 703 x (by decide) hx]; exact h.pr, by rw [w.i 704 x (by decide) hx]; exact h.st, ⟨ks, ?_⟩, ⟨ws, ?_⟩⟩
  · refine ⟨by rw [w.r 708 x (by decide) hx]; exact n.rc, w.sh.get n.kc, by rw [w.r 709 x (by decide) hx]; exact n.rd, w.sh.get n.kd, by rw [w.i 710 x (by decide) hx]; exact n.sz, n.le, n.nd, fun j P hP => ?_, n.mem⟩
    obtain ⟨y, y1, y2, y3⟩ := n.row j P hP
    exact ⟨y, by rw [w.q _ (nk29 n.kc (by decide)) (len_get n.kc)]; exact y1, y2, by rw [w.b _ (fun q => fx (a := 3) (k := 20) (n := 12) rfl (by decide) (by omega)) (len_get n.kd)]; exact y3⟩
  · refine ⟨by rw [w.r 706 x (by decide) hx]; exact v.rw, w.sh.get v.kw, by rw [w.i 707 x (by decide) hx]; exact v.sz, v.le, v.nd, fun j u hu => ?_, v.mem⟩
    rw [w.a (x + 1) (fun q => ?_) (len_get v.kw)]
    · exact v.row j u hu
    · have a0 := fx (a := 0) (k := 0) (n := 0) rfl (by decide)
      have a2 := fx (a := 2) (k := 8) (n := 0) rfl (by decide)
      have a3 := fx (a := 3) (k := 20) (n := 12) rfl (by decide)
      have a4 := fx (a := 4) (k := 23) (n := 12) rfl (by decide)
      have a7 := fx (a := 7) (k := 2) (n := 0) rfl (by decide)
      simp only [List.mem_cons, List.not_mem_nil, or_false] at q
      omega
theorem HZ.w {q u : List Ins} {L : Nat} {es : List (Ins × Bool)} (h : HZ S z g q u L es) (w : GW S S') : HZ S' z g q u L es := by
  have hB := h.B
  have hf := hB.fix
  have hQ := h.Q
  have hO := h.O
  have h16 : 16 < S.1.length := fix_lt hf (by omega)
  have k17 : S.1[17]? = some (27, 250) := hf.get rfl
  have k18 : S.1[18]? = some (27, 250) := hf.get rfl
  have k19 : S.1[19]? = some (27, 250) := hf.get rfl
  refine ⟨hB.w w, ⟨by rw [w.i 1101 16 (by decide) h16]; exact hQ.qs, fun j i hj => by rw [w.q 17 (nk29 k17 (by decide)) (len_get k17)]; exact hQ.q j i hj, by rw [w.i 1103 16 (by decide) h16]; exact hQ.us, fun j i hj => by rw [w.q 18 (nk29 k18 (by decide)) (len_get k18)]; exact hQ.u j i hj, fun i hi => (hQ.ins i hi).w hf w, hQ.inj, hQ.isq, hQ.isu⟩, ⟨by rw [w.i 1106 16 (by decide) h16]; exact h.K.look, fun P x e => ?_⟩, ⟨by rw [w.i 1105 16 (by decide) h16]; exact hO.sz, fun j e he => ?_, hO.dj, hO.len⟩⟩
  · rw [w.i 1008 x (by decide) (hB.tab.pos P x e).len]; exact h.K.mk P x e
  · obtain ⟨r1, r2, r3⟩ := hO.row j e he
    exact ⟨by rw [w.q 19 (nk29 k19 (by decide)) (len_get k19)]; exact r1, by rw [w.i 704 _ (by decide) (len_get r3.k)]; exact r2, r3.w w⟩
end
/-! Keeping a text. -/
def byt (M : List Nat) : List Int32 := M.map fun x => nI (chr36 x)
theorem byt_get {f : Nat → Int32} {n : Nat} {M : List Nat} (h : TXT f n M) : ∀ (k : Nat) (v : Int32), (byt M)[k]? = some v → f k = v := fun k v hv => by
  unfold byt at hv
  rw [List.getElem?_map] at hv
  cases hm : M[k]? with
  | none => rw [hm] at hv; cases hv
  | some x =>
    rw [hm] at hv
    cases hv
    exact h.2.2 k x hm
theorem byt_len (M : List Nat) : (byt M).length = M.length := List.length_map _
theorem fits36 : ∀ z : Fin 36, fits .byte (.int (nI (chr36 z.val))) = true := by decide +kernel
theorem h_sinit {S : hS} (hf : hE hs_fix S.1) (hlen : S.1.length + 1 < am_M) {M : List Nat} (hT : TXT (S.2.2.2.2.1 1) M.length M) (hm : M.length ≤ 400) (e801 : S.2.1 801 2 = nI M.length) {w : Nat} {nm : List Nat} (e813 : S.2.1 813 2 = nI w) (e806 : S.2.2.1 806 2 = lI (b36 nm : Nat)) : ∃ U, h_Se_init S.1.length (hNew S 12 0) = some U ∧ U.1 = S.1 ++ [(12, 0), (22, M.length)] ∧ HTx1 U S.1.length (mkTxt w nm (byt M)) ∧ (∀ k a, a < S.1.length → U.2.1 k a = S.2.1 k a) ∧ (∀ k a, a < S.1.length → U.2.2.1 k a = S.2.2.1 k a) ∧ (∀ k a, a < S.1.length → U.2.2.2.1 k a = S.2.2.2.1 k a) ∧ (∀ a, a < S.1.length → U.2.2.2.2.1 a = S.2.2.2.2.1 a) ∧ (∀ a, a < S.1.length → U.2.2.2.2.2.1 a = S.2.2.2.2.2.1 a) ∧ (∀ a, a < S.1.length → U.2.2.2.2.2.2 a = S.2.2.2.2.2.2 a) := by
  have h60 : 59 < S.1.length := fix_lt hf (by omega)
  have k1 : S.1[1]? = some (22, 400) := hf.get rfl
  obtain ⟨T, hT0⟩ : ∃ T, T = hpL (hpI (hNew S 12 0) 1200 S.1.length (S.2.1 813 2)) 1201 S.1.length (S.2.2.1 806 2) := ⟨_, rfl⟩
  have t1 : T.1 = S.1 ++ [(12, 0)] := by rw [hT0]; rfl
  have tl : T.1.length = S.1.length + 1 := by rw [t1, List.length_append]; rfl
  have tI : ∀ k a, a < S.1.length → T.2.1 k a = S.2.1 k a := fun k a ha => by
    rw [hT0]
    show up2 (nw1 S.2.1 S.1.length 0) 1200 S.1.length (S.2.1 813 2) k a = _
    rw [up2_na (by omega), nw1_ne (by omega)]
  have tL : ∀ k a, a < S.1.length → T.2.2.1 k a = S.2.2.1 k a := fun k a ha => by
    rw [hT0]
    show up2 (nw1 S.2.2.1 S.1.length 0) 1201 S.1.length (S.2.2.1 806 2) k a = _
    rw [up2_na (by omega), nw1_ne (by omega)]
  have tR : ∀ k a, a < S.1.length → T.2.2.2.1 k a = S.2.2.2.1 k a := fun k a ha => by
    rw [hT0]
    show nw1 S.2.2.2.1 S.1.length none k a = _
    rw [nw1_ne (by omega)]
  have tA : ∀ a, a < S.1.length → T.2.2.2.2.1 a = S.2.2.2.2.1 a := fun a ha => by
    rw [hT0]
    show nw2 S.2.2.2.2.1 S.1.length 0 a = _
    rw [nw2_ne (by omega)]
  have tB : ∀ a, a < S.1.length → T.2.2.2.2.2.1 a = S.2.2.2.2.2.1 a := fun a ha => by
    rw [hT0]
    show nw2 S.2.2.2.2.2.1 S.1.length 0 a = _
    rw [nw2_ne (by omega)]
  have tQ : ∀ a, a < S.1.length → T.2.2.2.2.2.2 a = S.2.2.2.2.2.2 a := fun a ha => by
    rw [hT0]
    show nw2 S.2.2.2.2.2.2 S.1.length none a = _
    rw [nw2_ne (by omega)]
  have ti : T.2.1 1200 S.1.length = nI w := by rw [hT0, ← e813]; simp [hpI, hpL, up2]
  have tl2 : T.2.2.1 1201 S.1.length = lI (b36 nm : Nat) := by rw [hT0, ← e806]; simp [hpI, hpL, up2]
  have e1 : T.2.1 801 2 = nI M.length := by rw [tI 801 2 (by omega)]; exact e801
  have al : hs_al T = some (S.1.length + 1) := by unfold hs_al; rw [tl, if_pos hlen]
  have nl : hs_nl (nI M.length) 400 = some M.length := hs_nl_n hm (by omega)
  obtain ⟨V, hV⟩ : ∃ V, V = hNew T 22 M.length := ⟨_, rfl⟩
  have v1 : V.1 = S.1 ++ [(12, 0)] ++ [(22, M.length)] := by rw [hV]; show T.1 ++ _ = _; rw [t1]
  have vk : V.1[S.1.length + 1]? = some (22, M.length) := by
    have := get_snoc (S.1 ++ [(12, 0)]) (22, M.length)
    rw [v1]
    rw [List.length_append, List.length_singleton] at this
    exact this
  have vE : hE S.1 V.1 := ⟨[(12, 0), (22, M.length)], by rw [v1, List.append_assoc]; rfl⟩
  have vx : V.1[S.1.length]? = some (12, 0) := by
    rw [v1, List.append_assoc, List.getElem?_append_right (Nat.le_refl _), Nat.sub_self]; rfl
  have vi : ∀ k a, a < S.1.length + 1 → V.2.1 k a = T.2.1 k a := fun k a ha => by
    rw [hV]
    show nw1 T.2.1 T.1.length 0 k a = _
    rw [nw1_ne (by omega)]
  have vl : ∀ k a, a < S.1.length + 1 → V.2.2.1 k a = T.2.2.1 k a := fun k a ha => by
    rw [hV]
    show nw1 T.2.2.1 T.1.length 0 k a = _
    rw [nw1_ne (by omega)]
  have vr : ∀ k a, a < S.1.length + 1 → V.2.2.2.1 k a = T.2.2.2.1 k a := fun k a ha => by
    rw [hV]
    show nw1 T.2.2.2.1 T.1.length none k a = _
    rw [nw1_ne (by omega)]
  have va : ∀ a, a < S.1.length + 1 → V.2.2.2.2.1 a = T.2.2.2.2.1 a := fun a ha => by
    rw [hV]
    show nw2 T.2.2.2.2.1 T.1.length 0 a = _
    rw [nw2_ne (by omega)]
  have vb : ∀ a, a < S.1.length + 1 → V.2.2.2.2.2.1 a = T.2.2.2.2.2.1 a := fun a ha => by
    rw [hV]
    show nw2 T.2.2.2.2.2.1 T.1.length 0 a = _
    rw [nw2_ne (by omega)]
  have vq : ∀ a, a < S.1.length + 1 → V.2.2.2.2.2.2 a = T.2.2.2.2.2.2 a := fun a ha => by
    rw [hV]
    show nw2 T.2.2.2.2.2.2 T.1.length none a = _
    rw [nw2_ne (by omega)]
  have ve : V.2.1 801 2 = nI M.length := by rw [vi 801 2 (by omega)]; exact e1
  have cl : (nI M.length).toNatClampNeg = M.length := nI_nn (by omega)
  have v1a : V.2.2.2.2.1 1 = S.2.2.2.2.1 1 := by rw [va 1 (by omega), tA 1 (by omega)]
  have cb : hs_cb V 1 (S.1.length + 1) (nI M.length) = true := by
    unfold hs_cb
    rw [cl, hln_of (vE.get k1), hln_of vk, decide_eq_false (nI_neg1 (by omega)), decide_eq_true hm, decide_eq_true (Nat.le_refl _)]
    refine List.all_eq_true.mpr (fun i hi => ?_)
    have hi' := List.mem_range.mp hi
    obtain ⟨x, hx⟩ := get_lt (ks := M) (j := i) hi'
    rw [v1a, hT.2.2 i x hx]
    exact fits36 ⟨x, hT.2.1 x (List.mem_of_getElem? hx)⟩
  have cp : h_Me_copyOfBytes T = some (S.1.length + 1, hCpb V 1 (S.1.length + 1) M.length) := by
    unfold h_Me_copyOfBytes
    rw [e1, nl, Option.bind_some, al, Option.bind_some, ← hV, ve, if_pos cb, cl]
  obtain ⟨W, hW⟩ : ∃ W, W = hCpb V 1 (S.1.length + 1) M.length := ⟨_, rfl⟩
  have w1 : W.1 = V.1 := by rw [hW]; rfl
  have wi : W.2.1 = V.2.1 := by rw [hW]; rfl
  have wl : W.2.2.1 = V.2.2.1 := by rw [hW]; rfl
  have wr : W.2.2.2.1 = V.2.2.2.1 := by rw [hW]; rfl
  have wb : W.2.2.2.2.2 = V.2.2.2.2.2 := by rw [hW]; rfl
  have wa : ∀ a, a < S.1.length + 1 → W.2.2.2.2.1 a = V.2.2.2.2.1 a := fun a ha => by
    rw [hW]
    show (if a = S.1.length + 1 then _ else V.2.2.2.2.1 a) = _
    rw [if_neg (by omega)]
  have wn : ∀ (k : Nat) (v : Int32), (byt M)[k]? = some v → W.2.2.2.2.1 (S.1.length + 1) k = v := fun k v hv => by
    have hk := get_lt' hv
    rw [byt_len] at hk
    rw [hW]
    show (if S.1.length + 1 = S.1.length + 1 then va_cpy (V.2.2.2.2.1 1) (V.2.2.2.2.1 (S.1.length + 1)) 0 0 M.length else _) k = _
    rw [if_pos rfl, va_cpy_lt _ _ _ _ hk, v1a]
    exact byt_get hT k v hv
  refine ⟨hpR W 1202 S.1.length (some (S.1.length + 1)), ?_, ?_, ⟨?_, ?_, ?_, S.1.length + 1, ?_, by omega, ?_, wn⟩, fun k a ha => ?_, fun k a ha => ?_, fun k a ha => ?_, fun a ha => ?_, fun a ha => ?_, fun a ha => ?_⟩
  · have h0 : h_Se_init S.1.length (hNew S 12 0) = (h_Me_copyOfBytes T).bind fun q9 => some (hpR q9.2 1202 S.1.length (some q9.1)) := by
      unfold h_Se_init
      rw [hT0]
      have i1 : (hNew S 12 0).2.1 813 2 = S.2.1 813 2 := nw1_ne (by omega)
      have i2 : (hNew S 12 0).2.2.1 806 2 = S.2.2.1 806 2 := nw1_ne (by omega)
      rw [i1, i2]
    rw [h0, cp, Option.bind_some, hW]
  · show W.1 = _
    rw [w1, v1, List.append_assoc]; rfl
  · show W.1[S.1.length]? = _
    rw [w1]; exact vx
  · show W.2.1 1200 S.1.length = _
    rw [wi, vi _ _ (by omega)]; exact ti
  · show W.2.2.1 1201 S.1.length = _
    rw [wl, vl _ _ (by omega)]; exact tl2
  · simp [hpR, up2]
  · show W.1[S.1.length + 1]? = some (22, (byt M).length)
    rw [w1, byt_len]; exact vk
  · show W.2.1 k a = _
    rw [wi, vi k a (by omega)]; exact tI k a ha
  · show W.2.2.1 k a = _
    rw [wl, vl k a (by omega)]; exact tL k a ha
  · show up2 W.2.2.2.1 1202 S.1.length (some (S.1.length + 1)) k a = _
    rw [up2_na (by omega), wr, vr k a (by omega)]; exact tR k a ha
  · show W.2.2.2.2.1 a = _
    rw [wa a (by omega), va a (by omega)]; exact tA a ha
  · show W.2.2.2.2.2.1 a = _
    rw [wb, vb a (by omega)]; exact tB a ha
  · show W.2.2.2.2.2.2 a = _
    rw [wb, vq a (by omega)]; exact tQ a ha
