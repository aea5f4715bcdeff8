/-! What was sent today: the class's list. -/
theorem nl_al2 : ∀ l : Fin 800, 0 < l.val → h_ArraysSupport_newLength (nI l.val) 1 (nI l.val >>> (1 &&& 31)) = some (nI (l.val + max 1 (l.val / 2))) := by decide +kernel
theorem txK_some {w : Nat} {nm : List Nat} : ∀ {l : List Txt} {k j : Nat}, txK w nm k l = some j → ∃ t, l[j - k]? = some t ∧ k ≤ j := by
  intro l
  induction l with
  | nil => intro k j h; cases h
  | cons i l ih =>
    intro k j h
    unfold txK at h
    by_cases c : i.who = w ∧ i.nm = nm
    · rw [if_pos c] at h
      cases h
      exact ⟨i, by rw [Nat.sub_self]; rfl, Nat.le_refl _⟩
    · rw [if_neg c] at h
      obtain ⟨t, t1, t2⟩ := ih h
      refine ⟨t, ?_, by omega⟩
      rw [show j - k = (j - (k + 1)) + 1 by omega, List.getElem?_cons_succ]; exact t1
set_option maxHeartbeats 1000000 in
theorem h_add14 {S : hS} {e n y : Nat} (hd : 21 < S.1.length) (h0 : S.2.2.2.1 1400 21 = some e) (hk : e = am_M + 1 ∨ (hK S.1 e 29 ∧ 0 < hlq S.1 e)) (hq : hlq S.1 e ≤ 1200) (hsz : S.2.1 1401 21 = nI n) (hn : n ≤ hlq S.1 e) (hn2 : n ≤ 767) (hlen : S.1.length < am_M) : ∃ S' e', h_AL14_add2 y S = some (1, S') ∧ LA S S' 21 e e' n y 29 1400 ∧ hlq S'.1 e' ≤ 1200 ∧ S'.1.length ≤ S.1.length + 1 := by
  have hM : am_M = 16777216 := rfl
  have helt : e = am_M + 1 ∨ e < S.1.length := hk.imp id (fun q => q.1.lt)
  obtain ⟨T, hT⟩ : ∃ T, T = hpI S 1402 21 (S.2.1 1402 21 + 1) := ⟨_, rfl⟩
  have t1 : T.1 = S.1 := by rw [hT]; rfl
  have tI : ∀ k a, ¬ ((k = 1400 + 1 ∨ k = 1400 + 2) ∧ a = 21) → T.2.1 k a = S.2.1 k a := fun k a hna => by
    rw [hT]
    exact up2_ne (f := S.2.1) (fun c => hna ⟨Or.inr c.1, c.2⟩)
  have tz : T.2.1 1401 21 = nI n := by rw [hT, ← hsz]; simp [hpI, up2]
  have t2 : T.2.2 = S.2.2 := by rw [hT]; rfl
  have tr : T.2.2.2.1 1400 21 = some e := by rw [t2]; exact h0
  have al : hs_al T = some S.1.length := by unfold hs_al; rw [t1]; exact if_pos hlen
  -- behind the growing, if any
  have fin : ∀ (U : hS) (e' : Nat), h_AL14_add y e (nI n) T = (am_ix (nI n) (hlq U.1 e')).bind (fun j10 => some (hpI (hpQ U e' j10 (some y)) 1401 21 (nI n + 1))) → U.2.2.2.1 (1400 + 0) 21 = some e' → ((e' = e ∧ e ≠ am_M + 1 ∧ U.1 = S.1) ∨ (e' = S.1.length ∧ ∃ N, U.1 = S.1 ++ [(29, N)])) → hK U.1 e' 29 → n + 1 ≤ hlq U.1 e' → hlq U.1 e' ≤ 1200 → (∀ j, j < n → U.2.2.2.2.2.2 e' j = S.2.2.2.2.2.2 e j) → (∀ b, b < S.1.length → b ≠ e → U.2.2.2.2.2.2 b = S.2.2.2.2.2.2 b) → (∀ k a, a < S.1.length → ¬ ((k = 1400 + 1 ∨ k = 1400 + 2) ∧ a = 21) → U.2.1 k a = S.2.1 k a) → (∀ k a, a < S.1.length → U.2.2.1 k a = S.2.2.1 k a) → (∀ k a, a < S.1.length → ¬ (k = 1400 ∧ a = 21) → U.2.2.2.1 k a = S.2.2.2.1 k a) → (∀ a, a < S.1.length → U.2.2.2.2.1 a = S.2.2.2.2.1 a) → (∀ a, a < S.1.length → U.2.2.2.2.2.1 a = S.2.2.2.2.2.1 a) → ∃ S' e', h_AL14_add2 y S = some (1, S') ∧ LA S S' 21 e e' n y 29 1400 ∧ hlq S'.1 e' ≤ 1200 ∧ S'.1.length ≤ S.1.length + 1 := by
    intro U e' hU re ch kk rm rm2 row oq oi ol or oa ob
    refine ⟨_, e', ?_, LA.put hd re ch kk rm row oq oi ol or oa ob, rm2, ?_⟩
    · unfold h_AL14_add2
      rw [h0, Option.bind_some, hsz, ← hT, hU, ix_N (by omega) (by omega), Option.bind_some, Option.bind_some, nI_add1]
    · show U.1.length ≤ _
      rcases ch with ⟨_, _, c⟩ | ⟨_, N, c⟩ <;> rw [c]
      · omega
      · rw [List.length_append, List.length_singleton]; omega
  by_cases hf : n = hlq S.1 e
  · by_cases hz : n = 0
    · have he : e = am_M + 1 := by
        rcases hk with c | c
        · exact c
        · have := c.2; omega
      refine fin (hpR (hNew T 29 10) 1400 21 (some S.1.length)) S.1.length ?_ ?_ (Or.inr ⟨rfl, 10, ?_⟩) ?_ ?_ ?_ (fun j hj => by omega) (fun b hb _ => ?_) (fun k a ha hna => ?_) (fun k a ha => ?_) (fun k a ha hna => ?_) (fun a ha => ?_) (fun a ha => ?_)
      · unfold h_AL14_add
        rw [t1, if_neg (fun q => q (by rw [← hf]; rfl))]
        unfold h_AL14_grow2 h_AL14_grow
        rw [tr, Option.bind_some, t1, ← hf, tz, hz, if_neg (by decide), if_pos he, al]
        rfl
      · simp [hpR, up2]
      · show T.1 ++ [(29, 10)] = _
        rw [t1]
      · exact ⟨10, by show (T.1 ++ [(29, 10)])[S.1.length]? = _; rw [t1]; exact get_snoc S.1 (29, 10)⟩
      · show n + 1 ≤ hlq (T.1 ++ [(29, 10)]) S.1.length
        rw [t1, hlq_ne (get_snoc S.1 (29, 10)) (by omega)]; omega
      · show hlq (T.1 ++ [(29, 10)]) S.1.length ≤ _
        rw [t1, hlq_ne (get_snoc S.1 (29, 10)) (by omega)]; omega
      · show nw2 T.2.2.2.2.2.2 T.1.length none b = _
        rw [nw2_ne (by rw [t1]; omega), t2]
      · show nw1 T.2.1 T.1.length 0 k a = _
        rw [nw1_ne (by rw [t1]; omega)]; exact tI k a hna
      · show nw1 T.2.2.1 T.1.length 0 k a = _
        rw [nw1_ne (by rw [t1]; omega), t2]
      · show up2 (nw1 T.2.2.2.1 T.1.length none) 1400 21 (some S.1.length) k a = _
        rw [up2_ne hna, nw1_ne (by rw [t1]; omega), t2]
      · show nw2 T.2.2.2.2.1 T.1.length 0 a = _
        rw [nw2_ne (by rw [t1]; omega), t2]
      · show nw2 T.2.2.2.2.2.1 T.1.length 0 a = _
        rw [nw2_ne (by rw [t1]; omega), t2]
    · have he : e ≠ am_M + 1 := fun c => by
        rw [c, hlq_0] at hf; exact hz hf
      have hke : hK S.1 e 29 := (hk.resolve_left he).1
      have hln0 : hln S.1 e = n := by
        unfold hlq at hf
        rw [if_neg he] at hf; exact hf.symm
      have hel : e < S.1.length := hke.lt
      obtain ⟨N, hN⟩ : ∃ N, N = n + max 1 (n / 2) := ⟨_, rfl⟩
      have hN4 : N ≤ 1200 ∧ n + 1 ≤ N := by
        rw [hN]
        omega
      have hgr : h_AL14_grow2 T = some (S.1.length, hpR (hCpy (hNew T 29 N) e S.1.length n) 1400 21 (some S.1.length)) := by
        unfold h_AL14_grow2 h_AL14_grow
        have hnl := nl_al2 ⟨n, by omega⟩ (show 0 < n by omega)
        have e1 : nI n + 1 - Int32.ofNat n = 1 := by
          rw [nI_add1]; exact nI_sub' (a := n + 1) (b := n) (by omega) |>.trans (by rw [show n + 1 - n = 1 by omega]; rfl)
        have e2 : (0 : Int32) < Int32.ofNat n := (nI_lt' (a := 0) (b := n) (by omega) (by omega)).mpr (by omega)
        rw [tr, Option.bind_some, t1, ← hf, tz, if_pos e2, e1]
        have hnl' : h_ArraysSupport_newLength (Int32.ofNat n) 1 (Int32.ofNat n >>> (1 &&& 31)) = some (nI N) := by rw [hN]; exact hnl
        rw [hnl', Option.bind_some]
        unfold h_copyOf
        rw [t1, hln0, if_neg (fun c => c.elim he (fun q => by omega)), hs_nl_n hN4.1 (by omega), Option.bind_some, al, Option.bind_some]
        have e3 : (hmin (nI N) n).toNatClampNeg = n := by
          unfold hmin
          rw [if_neg (fun c => by have := (nI_lt' (a := N) (b := n) (by omega) (by omega)).mp c; omega)]
          exact nI_nn (by omega)
        rw [e3]; rfl
      refine fin (hpR (hCpy (hNew T 29 N) e S.1.length n) 1400 21 (some S.1.length)) S.1.length ?_ ?_ (Or.inr ⟨rfl, N, ?_⟩) ?_ ?_ ?_ (fun j hj => ?_) (fun b hb _ => ?_) (fun k a ha hna => ?_) (fun k a ha => ?_) (fun k a ha hna => ?_) (fun a ha => ?_) (fun a ha => ?_)
      · unfold h_AL14_add
        rw [t1, if_neg (fun q => q (by rw [← hf]; rfl)), hgr]
        rfl
      · simp [hpR, up2]
      · show T.1 ++ [(29, N)] = _
        rw [t1]
      · exact ⟨N, by show (T.1 ++ [(29, N)])[S.1.length]? = _; rw [t1]; exact get_snoc S.1 (29, N)⟩
      · show n + 1 ≤ hlq (T.1 ++ [(29, N)]) S.1.length
        rw [t1, hlq_ne (get_snoc S.1 (29, N)) (by omega)]; omega
      · show hlq (T.1 ++ [(29, N)]) S.1.length ≤ _
        rw [t1, hlq_ne (get_snoc S.1 (29, N)) (by omega)]; omega
      · show (if S.1.length = S.1.length then va_cpy (nw2 T.2.2.2.2.2.2 T.1.length none e) (nw2 T.2.2.2.2.2.2 T.1.length none S.1.length) 0 0 n else nw2 T.2.2.2.2.2.2 T.1.length none S.1.length) j = _
        rw [if_pos rfl, va_cpy_lt _ _ _ _ hj, nw2_ne (by rw [t1]; omega), t2]
      · show (if b = S.1.length then va_cpy (nw2 T.2.2.2.2.2.2 T.1.length none e) (nw2 T.2.2.2.2.2.2 T.1.length none S.1.length) 0 0 n else nw2 T.2.2.2.2.2.2 T.1.length none b) = _
        rw [if_neg (by omega), nw2_ne (by rw [t1]; omega), t2]
      · show nw1 T.2.1 T.1.length 0 k a = _
        rw [nw1_ne (by rw [t1]; omega)]; exact tI k a hna
      · show nw1 T.2.2.1 T.1.length 0 k a = _
        rw [nw1_ne (by rw [t1]; omega), t2]
      · show up2 (nw1 T.2.2.2.1 T.1.length none) 1400 21 (some S.1.length) k a = _
        rw [up2_ne hna, nw1_ne (by rw [t1]; omega), t2]
      · show nw2 T.2.2.2.2.1 T.1.length 0 a = _
        rw [nw2_ne (by rw [t1]; omega), t2]
      · show nw2 T.2.2.2.2.2.1 T.1.length 0 a = _
        rw [nw2_ne (by rw [t1]; omega), t2]
  · have he : e ≠ am_M + 1 := fun c => by
      rw [c, hlq_0] at hf hn; omega
    have hke : hK S.1 e 29 := (hk.resolve_left he).1
    refine fin T e ?_ tr (Or.inl ⟨rfl, he, t1⟩) (by rw [t1]; exact hke) (by rw [t1]; omega) (by rw [t1]; exact hq) (fun j _ => by rw [t2]) (fun b _ _ => by rw [t2]) (fun k a _ hna => tI k a hna) (fun k a _ => by rw [t2]) (fun k a _ _ => by rw [t2]) (fun a _ => by rw [t2]) (fun a _ => by rw [t2])
    unfold h_AL14_add
    rw [t1, if_pos (show ¬ nI n = Int32.ofNat (hlq S.1 e) from fun q => hf (nI_inj (by omega) (by omega) q)), Option.bind_some]
    show (am_ix (nI n) (hlq T.1 e)).bind _ = _
    rw [t1]
/-- the one that was sent, at x -/
def HTx1 (S : hS) (x : Nat) (t : Txt) : Prop := S.1[x]? = some (12, 0) ∧ S.2.1 1200 x = nI t.who ∧ S.2.2.1 1201 x = lI (b36 t.nm : Nat) ∧ ∃ b, S.2.2.2.1 1202 x = some b ∧ 22 ≤ b ∧ S.1[b]? = some (22, t.bs.length) ∧ ∀ (k : Nat) (v : Int32), t.bs[k]? = some v → S.2.2.2.2.1 b k = v
def HTx (S : hS) (ts : List Txt) : Prop := ∃ e, S.2.2.2.1 1400 21 = some e ∧ (e = am_M + 1 ∨ (22 ≤ e ∧ hK S.1 e 29 ∧ 0 < hlq S.1 e ∧ ∀ b, e = b + 1 → S.1[b]? ≠ some (9, 0))) ∧ hlq S.1 e ≤ 1200 ∧ S.2.1 1401 21 = nI ts.length ∧ ts.length ≤ hlq S.1 e ∧ ∀ (j : Nat) (t : Txt), ts[j]? = some t → ∃ x, S.2.2.2.2.2.2 e j = some x ∧ HTx1 S x t
theorem HTx1.fr {S S' : hS} {x : Nat} {t : Txt} (h : HTx1 S x t) (hE0 : hE S.1 S'.1) (f1 : S'.2.1 1200 x = S.2.1 1200 x) (f2 : S'.2.2.1 1201 x = S.2.2.1 1201 x) (f3 : S'.2.2.2.1 1202 x = S.2.2.2.1 1202 x) (f4 : ∀ b m, 22 ≤ b → S.1[b]? = some (22, m) → S'.2.2.2.2.1 b = S.2.2.2.2.1 b) : HTx1 S' x t := by
  obtain ⟨a1, a2, a3, b, b1, b2, b3, b4⟩ := h
  refine ⟨hE0.get a1, by rw [f1]; exact a2, by rw [f2]; exact a3, b, by rw [f3]; exact b1, b2, hE0.get b3, fun k v hv => by rw [f4 b _ b2 b3]; exact b4 k v hv⟩
theorem HTx.fr {S S' : hS} {ts : List Txt} (h : HTx S ts) (hE0 : hE S.1 S'.1) (hM : S'.1.length ≤ am_M + 1) (g1 : S'.2.2.2.1 1400 21 = S.2.2.2.1 1400 21) (g2 : S'.2.1 1401 21 = S.2.1 1401 21) (f1 : ∀ x, S.1[x]? = some (12, 0) → S'.2.1 1200 x = S.2.1 1200 x ∧ S'.2.2.1 1201 x = S.2.2.1 1201 x ∧ S'.2.2.2.1 1202 x = S.2.2.2.1 1202 x) (f4 : ∀ b m, 22 ≤ b → S.1[b]? = some (22, m) → S'.2.2.2.2.1 b = S.2.2.2.2.1 b) (f5 : ∀ b, 22 ≤ b → hK S.1 b 29 → (∀ c, b = c + 1 → S.1[c]? ≠ some (9, 0)) → S'.2.2.2.2.2.2 b = S.2.2.2.2.2.2 b) : HTx S' ts := by
  obtain ⟨e, a1, a2, a3, a4, a5, a6⟩ := h
  have hq : hlq S'.1 e = hlq S.1 e := by
    rcases a2 with c | ⟨_, ⟨m, c⟩, _, _⟩
    · rw [c, hlq_0, hlq_0]
    · have hne : e ≠ am_M + 1 := fun q => by have := len_get (hE0.get c); omega
      rw [hlq_ne (hE0.get c) hne, hlq_ne c hne]
  have a2' : e = am_M + 1 ∨ (22 ≤ e ∧ hK S'.1 e 29 ∧ 0 < hlq S'.1 e ∧ ∀ b, e = b + 1 → S'.1[b]? ≠ some (9, 0)) := by
    rcases a2 with c | ⟨c1, ⟨m, c2⟩, c3, c4⟩
    · exact Or.inl c
    · refine Or.inr ⟨c1, ⟨m, hE0.get c2⟩, by rw [hq]; exact c3, fun b hb => ?_⟩
      have := len_get c2
      rw [hE0.back (by omega)]; exact c4 b hb
  refine ⟨e, by rw [g1]; exact a1, a2', by rw [hq]; exact a3, by rw [g2]; exact a4, by rw [hq]; exact a5, fun j t ht => ?_⟩
  obtain ⟨x, x1, x2⟩ := a6 j t ht
  obtain ⟨y1, y2, y3⟩ := f1 x x2.1
  refine ⟨x, ?_, x2.fr hE0 y1 y2 y3 f4⟩
  rcases a2 with c | ⟨c1, c2, _, c4⟩
  · rw [c, hlq_0] at a5
    have := get_lt' ht
    omega
  · rw [f5 e c1 c2 c4]; exact x1
theorem HTx.x {ki kl kr ka kb kq : List Nat} {S S' : hS} {ts : List Txt} (h : HTx S ts) (hM : S.1.length ≤ am_M + 1) (w : hX ki kl kr ka kb kq S S') (k1 : 1401 ∉ ki ∧ 1200 ∉ ki) (k2 : 1201 ∉ kl) (k3 : 1400 ∉ kr ∧ 1202 ∉ kr) (k4 : ∀ k ∈ ka, k < 22 ∨ ∃ m, S.1[k]? = some (20, m)) (k5 : ∀ k ∈ kq, k < 22) : HTx S' ts := by
  refine h.fr (by rw [w.sh]; exact hE.rf) (by rw [w.sh]; exact hM) (w.er _ k3.1 _) (w.ei _ k1.1 _) (fun x _ => ⟨w.ei _ k1.2 _, w.el _ k2 _, w.er _ k3.2 _⟩) (fun b m hb hbk => w.a b (fun q => ?_)) (fun b hb _ _ => w.q b (fun q => by have := k5 b q; omega))
  rcases k4 b q with c | ⟨m', c⟩
  · omega
  · rw [hbk] at c; cases c
theorem HTx.f {S S' : hS} {ts : List Txt} (h : HTx S ts) (hf : hE hs_fix S.1) (hM : S'.1.length ≤ am_M + 1) (w : BF S S') : HTx S' ts := by
  have h21 : 21 < S.1.length := fix_lt hf (by omega)
  refine h.fr w.sh hM (w.r 1400 21 (by decide) h21) (w.i 1401 21 (by decide) h21) (fun x hx => ⟨w.i 1200 x (by decide) (len_get hx), w.l 1201 x (by decide) (len_get hx), w.r 1202 x (by decide) (len_get hx)⟩) (fun b m _ hb => w.a b (len_get hb)) (fun b _ hb hc => ?_)
  obtain ⟨m, hm⟩ := hb
  exact w.q b (len_get hm) (nbk hf hm (by decide) (by decide) (by decide) hc)
theorem h_get14 {S : hS} {e n j : Nat} {x : Nat} (h0 : S.2.2.2.1 1400 21 = some e) (hsz : S.2.1 1401 21 = nI n) (hn : n ≤ hlq S.1 e) (hq : hlq S.1 e ≤ 1200) (hj : j < n) (hx : S.2.2.2.2.2.2 e j = some x) : h_AL14_get (nI j) S = some (some x) := by
  unfold h_AL14_get h_Objects_checkIndex
  rw [hsz, if_neg (nI_neg1 (by omega)), if_pos ((nI_lt' (by omega) (by omega)).mpr hj), Option.bind_some]
  unfold h_AL14_elementData
  rw [h0, Option.bind_some, ix_N (by omega) (by omega), Option.bind_some, hx]; rfl
theorem h_sent_loop {S : hS} {ts : List Txt} {e : Nat} (a1 : S.2.2.2.1 1400 21 = some e) (a3 : hlq S.1 e ≤ 1200) (a4 : S.2.1 1401 21 = nI ts.length) (a5 : ts.length ≤ hlq S.1 e) (a6 : ∀ (j : Nat) (t : Txt), ts[j]? = some t → ∃ x, S.2.2.2.2.2.2 e j = some x ∧ HTx1 S x t) (hok : ∀ t ∈ ts, t.who < 256 ∧ t.nm.length = 8 ∧ is36 t.nm) {w : Nat} {nm : List Nat} (hw : w < 256) (hn : nm.length = 8) (h36 : is36 nm) (e813 : S.2.1 813 2 = nI w) (e806 : S.2.2.1 806 2 = lI (b36 nm : Nat)) : ∀ (d fu j : Nat), ts.length - j = d → d < fu → j ≤ ts.length → hl_De_findSent_2 fu (nI j) S = some ((txK w nm j (ts.drop j)).bind fun k => S.2.2.2.2.2.2 e k) := by
  intro d
  induction d with
  | zero =>
    intro fu j hd hf hj
    obtain ⟨fu, rfl⟩ : ∃ f, fu = f + 1 := ⟨fu - 1, by omega⟩
    unfold hl_De_findSent_2 h_AL14_size
    rw [Option.bind_some, a4, if_pos (nI_le0 (by omega) (by omega) (by omega)), List.drop_of_length_le (by omega)]; rfl
  | succ d ih =>
    intro fu j hd hf hj
    obtain ⟨fu, rfl⟩ : ∃ f, fu = f + 1 := ⟨fu - 1, by omega⟩
    obtain ⟨t, ht⟩ := get_lt (ks := ts) (j := j) (by omega)
    obtain ⟨o1, o2, o3⟩ := hok t (List.mem_of_getElem? ht)
    obtain ⟨x, x1, x2⟩ := a6 j t ht
    have l1 := b36_inL o2 o3
    have l2 := b36_inL hn h36
    have IH := ih fu (j + 1) (by omega) (by omega) (by omega)
    unfold hl_De_findSent_2 h_AL14_size
    rw [Option.bind_some, a4, if_neg (nI_ngt (by omega) (by omega) (by omega)), h_get14 a1 a4 a5 a3 (get_lt' ht) x1, Option.bind_some, Option.bind_some, x2.2.1, x2.2.2.1, e813, e806, nI_add1, drop_cons ht]
    unfold txK
    by_cases c1 : t.who = w
    · rw [if_neg (fun q => q (by rw [c1]))]
      by_cases c2 : t.nm = nm
      · rw [if_neg (fun q => q ((cmp_eq0 l1 l2).mpr (by rw [c2]))), if_pos ⟨c1, c2⟩, Option.bind_some, x1]
      · rw [if_pos (fun q => c2 (b36_inj 8 t.nm nm o2 hn o3 h36 (by have := (cmp_eq0 l1 l2).mp q; omega))), if_neg (fun q => c2 q.2)]; exact IH
    · rw [if_pos (fun q => c1 (nI_inj (by omega) (by omega) q)), if_neg (fun q => c1 q.1)]; exact IH
theorem h_sent {S : hS} {ts : List Txt} (h : HTx S ts) (hok : ∀ t ∈ ts, t.who < 256 ∧ t.nm.length = 8 ∧ is36 t.nm) {w : Nat} {nm : List Nat} (hw : w < 256) (hn : nm.length = 8) (h36 : is36 nm) (e813 : S.2.1 813 2 = nI w) (e806 : S.2.2.1 806 2 = lI (b36 nm : Nat)) : (txK w nm 0 ts = none ∧ h_De_findSent S = some none) ∨ ∃ k t x, txK w nm 0 ts = some k ∧ ts[k]? = some t ∧ h_De_findSent S = some (some x) ∧ HTx1 S x t := by
  obtain ⟨e, a1, a2, a3, a4, a5, a6⟩ := h
  have h0 := h_sent_loop a1 a3 a4 a5 a6 hok hw hn h36 e813 e806 _ 100000 0 rfl (by omega) (by omega)
  rw [List.drop_zero] at h0
  have h1 : h_De_findSent S = some ((txK w nm 0 ts).bind fun k => S.2.2.2.2.2.2 e k) := h0
  cases hk : txK w nm 0 ts with
  | none => rw [hk] at h1; exact Or.inl ⟨rfl, h1⟩
  | some k =>
    rw [hk, Option.bind_some] at h1
    obtain ⟨t, t1, _⟩ := txK_some hk
    rw [Nat.sub_zero] at t1
    obtain ⟨x, x1, x2⟩ := a6 k t t1
    rw [x1] at h1
    exact Or.inr ⟨k, t, x, rfl, t1, h1, x2⟩
theorem h_same_loop {S : hS} {b : Nat} {bs ms : List Int32} (hb : S.1[b]? = some (22, bs.length)) (hbs : ∀ (k : Nat) (v : Int32), bs[k]? = some v → S.2.2.2.2.1 b k = v) (hms : ∀ (k : Nat) (v : Int32), ms[k]? = some v → S.2.2.2.2.1 1 k = v) (hl : bs.length = ms.length) (hm : ms.length ≤ 400) (h801 : S.2.1 801 2 = nI ms.length) : ∀ (d fu j : Nat), ms.length - j = d → d < fu → j ≤ ms.length → hl_Me_hasSameBytes_13 fu b (nI j) S = some (b2i (decide (bs.drop j = ms.drop j))) := by
  intro d
  induction d with
  | zero =>
    intro fu j hd hf hj
    obtain ⟨fu, rfl⟩ : ∃ f, fu = f + 1 := ⟨fu - 1, by omega⟩
    unfold hl_Me_hasSameBytes_13
    rw [h801, if_pos (nI_le0 (by omega) (by omega) (by omega)), List.drop_of_length_le (by omega), List.drop_of_length_le (by omega)]; rfl
  | succ d ih =>
    intro fu j hd hf hj
    obtain ⟨fu, rfl⟩ : ∃ f, fu = f + 1 := ⟨fu - 1, by omega⟩
    obtain ⟨v, hv⟩ := get_lt (ks := bs) (j := j) (by omega)
    obtain ⟨m, hm1⟩ := get_lt (ks := ms) (j := j) (by omega)
    have IH := ih fu (j + 1) (by omega) (by omega) (by omega)
    unfold hl_Me_hasSameBytes_13
    rw [h801, if_neg (nI_ngt (by omega) (by omega) (by omega)), hln_of hb, ix_N (by omega) (by omega), Option.bind_some, ix_N (by omega) (by omega), Option.bind_some, hbs j v hv, hms j m hm1, nI_add1, drop_cons hv, drop_cons hm1, IH]
    by_cases c : v = m
    · rw [if_pos c]
      by_cases c2 : bs.drop (j + 1) = ms.drop (j + 1)
      · rw [decide_eq_true c2, decide_eq_true (by rw [c, c2])]
      · rw [decide_eq_false c2, decide_eq_false (fun q => c2 (by injection q))]
    · rw [if_neg c, decide_eq_false (fun q => c (by injection q))]; rfl
theorem h_same {S : hS} {b : Nat} {bs ms : List Int32} (hb : S.1[b]? = some (22, bs.length)) (hbs : ∀ (k : Nat) (v : Int32), bs[k]? = some v → S.2.2.2.2.1 b k = v) (hms : ∀ (k : Nat) (v : Int32), ms[k]? = some v → S.2.2.2.2.1 1 k = v) (hm : ms.length ≤ 400) (hb4 : bs.length ≤ 400) (h801 : S.2.1 801 2 = nI ms.length) : h_Me_hasSameBytes b S = some (b2i (decide (bs = ms))) := by
  unfold h_Me_hasSameBytes
  rw [hln_of hb, h801]
  by_cases c : bs.length = ms.length
  · rw [if_pos (by rw [c]; rfl)]
    have := h_same_loop hb hbs hms c hm h801 _ 100000 0 rfl (by omega) (by omega)
    rw [List.drop_zero, List.drop_zero] at this
    exact this
  · rw [if_neg (show ¬ Int32.ofNat bs.length = nI ms.length from fun q => c (nI_inj (by omega) (by omega) q)), decide_eq_false (fun q => c (by rw [q]))]; rfl
