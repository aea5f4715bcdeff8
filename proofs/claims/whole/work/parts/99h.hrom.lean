/-! The class's lists of rooms. -/
theorem nl_all : ∀ l : Fin 256, 0 < l.val → h_ArraysSupport_newLength (nI l.val) 1 (nI l.val >>> (1 &&& 31)) = some (nI (l.val + max 1 (l.val / 2))) := by decide +kernel
theorem nI_nn {n : Nat} (h : n < 2147483648) : (nI n).toNatClampNeg = n := nI_clamp h
theorem hs_nl_n {n m : Nat} (h : n ≤ m) (hm : m < 2147483648) : hs_nl (nI n) m = some n := by
  unfold hs_nl
  rw [nI_nn (by omega), if_neg (fun c => c.elim (fun q => nI_neg1 (by omega) q) (fun q => by omega))]
def LA (S S' : hS) (d e e' n y k28 : Nat) (kb : Nat) : Prop := (S'.2.2.2.1 (kb + 0) d = some e') ∧ (S'.2.1 (kb + 1) d = nI (n + 1)) ∧ ((e' = e ∧ e ≠ am_M + 1 ∧ S'.1 = S.1) ∨ (e' = S.1.length ∧ ∃ N, S'.1 = S.1 ++ [(k28, N)])) ∧ (hK S'.1 e' k28) ∧ (n + 1 ≤ hlq S'.1 e') ∧ (S'.2.2.2.2.2.2 e' n = some y) ∧ (∀ j, j < n → S'.2.2.2.2.2.2 e' j = S.2.2.2.2.2.2 e j) ∧ (∀ b, b < S.1.length → b ≠ e → S'.2.2.2.2.2.2 b = S.2.2.2.2.2.2 b) ∧ (∀ k a, a < S.1.length → ¬ ((k = kb + 1 ∨ k = kb + 2) ∧ a = d) → S'.2.1 k a = S.2.1 k a) ∧ (∀ k a, a < S.1.length → S'.2.2.1 k a = S.2.2.1 k a) ∧ (∀ k a, a < S.1.length → ¬ (k = kb ∧ a = d) → S'.2.2.2.1 k a = S.2.2.2.1 k a) ∧ (∀ a, a < S.1.length → S'.2.2.2.2.1 a = S.2.2.2.2.1 a) ∧ (∀ a, a < S.1.length → S'.2.2.2.2.2.1 a = S.2.2.2.2.2.1 a)
theorem LA.re {S S' : hS} {d e e' n y k28 : Nat} {kb : Nat} (h : LA S S' d e e' n y k28 kb) : S'.2.2.2.1 (kb + 0) d = some e' := h.1
theorem LA.sz {S S' : hS} {d e e' n y k28 : Nat} {kb : Nat} (h : LA S S' d e e' n y k28 kb) : S'.2.1 (kb + 1) d = nI (n + 1) := h.2.1
theorem LA.ch {S S' : hS} {d e e' n y k28 : Nat} {kb : Nat} (h : LA S S' d e e' n y k28 kb) : (e' = e ∧ e ≠ am_M + 1 ∧ S'.1 = S.1) ∨ (e' = S.1.length ∧ ∃ N, S'.1 = S.1 ++ [(k28, N)]) := h.2.2.1
theorem LA.kk {S S' : hS} {d e e' n y k28 : Nat} {kb : Nat} (h : LA S S' d e e' n y k28 kb) : hK S'.1 e' k28 := h.2.2.2.1
theorem LA.rm {S S' : hS} {d e e' n y k28 : Nat} {kb : Nat} (h : LA S S' d e e' n y k28 kb) : n + 1 ≤ hlq S'.1 e' := h.2.2.2.2.1
theorem LA.top {S S' : hS} {d e e' n y k28 : Nat} {kb : Nat} (h : LA S S' d e e' n y k28 kb) : S'.2.2.2.2.2.2 e' n = some y := h.2.2.2.2.2.1
theorem LA.row {S S' : hS} {d e e' n y k28 : Nat} {kb : Nat} (h : LA S S' d e e' n y k28 kb) : ∀ j, j < n → S'.2.2.2.2.2.2 e' j = S.2.2.2.2.2.2 e j := h.2.2.2.2.2.2.1
theorem LA.oq {S S' : hS} {d e e' n y k28 : Nat} {kb : Nat} (h : LA S S' d e e' n y k28 kb) : ∀ b, b < S.1.length → b ≠ e → S'.2.2.2.2.2.2 b = S.2.2.2.2.2.2 b := h.2.2.2.2.2.2.2.1
theorem LA.oi {S S' : hS} {d e e' n y k28 : Nat} {kb : Nat} (h : LA S S' d e e' n y k28 kb) : ∀ k a, a < S.1.length → ¬ ((k = kb + 1 ∨ k = kb + 2) ∧ a = d) → S'.2.1 k a = S.2.1 k a := h.2.2.2.2.2.2.2.2.1
theorem LA.ol {S S' : hS} {d e e' n y k28 : Nat} {kb : Nat} (h : LA S S' d e e' n y k28 kb) : ∀ k a, a < S.1.length → S'.2.2.1 k a = S.2.2.1 k a := h.2.2.2.2.2.2.2.2.2.1
theorem LA.or {S S' : hS} {d e e' n y k28 : Nat} {kb : Nat} (h : LA S S' d e e' n y k28 kb) : ∀ k a, a < S.1.length → ¬ (k = kb ∧ a = d) → S'.2.2.2.1 k a = S.2.2.2.1 k a := h.2.2.2.2.2.2.2.2.2.2.1
theorem LA.oa {S S' : hS} {d e e' n y k28 : Nat} {kb : Nat} (h : LA S S' d e e' n y k28 kb) : ∀ a, a < S.1.length → S'.2.2.2.2.1 a = S.2.2.2.2.1 a := h.2.2.2.2.2.2.2.2.2.2.2.1
theorem LA.ob {S S' : hS} {d e e' n y k28 : Nat} {kb : Nat} (h : LA S S' d e e' n y k28 kb) : ∀ a, a < S.1.length → S'.2.2.2.2.2.1 a = S.2.2.2.2.2.1 a := h.2.2.2.2.2.2.2.2.2.2.2.2
theorem hlq_ne {sh : List (Nat × Nat)} {e k n : Nat} (h : sh[e]? = some (k, n)) (he : e ≠ am_M + 1) : hlq sh e = n := by
  unfold hlq
  rw [if_neg he]; exact hln_of h
theorem hlq_0 {sh : List (Nat × Nat)} : hlq sh (am_M + 1) = 0 := if_pos rfl
theorem hE.snoc (s : List (Nat × Nat)) (p : Nat × Nat) : hE s (s ++ [p]) := ⟨[p], rfl⟩
theorem get_snoc (s : List (Nat × Nat)) (p : Nat × Nat) : (s ++ [p])[s.length]? = some p := by
  rw [List.getElem?_append_right (Nat.le_refl _), Nat.sub_self]; rfl
theorem va_cpy_lt {α : Type} (f g : Nat → α) (m i : Nat) (h : i < m) : va_cpy f g 0 0 m i = f i := by
  unfold va_cpy
  rw [if_pos (by omega)]
  congr 1
  omega
/-- what there must be before the last is put -/
theorem LA.put {S T : hS} {d e e' n y k28 kb : Nat} (hd : d < S.1.length) (re : T.2.2.2.1 (kb + 0) d = some e') (ch : (e' = e ∧ e ≠ am_M + 1 ∧ T.1 = S.1) ∨ (e' = S.1.length ∧ ∃ N, T.1 = S.1 ++ [(k28, N)])) (kk : hK T.1 e' k28) (rm : n + 1 ≤ hlq T.1 e') (row : ∀ j, j < n → T.2.2.2.2.2.2 e' j = S.2.2.2.2.2.2 e j) (oq : ∀ b, b < S.1.length → b ≠ e → T.2.2.2.2.2.2 b = S.2.2.2.2.2.2 b) (oi : ∀ k a, a < S.1.length → ¬ ((k = kb + 1 ∨ k = kb + 2) ∧ a = d) → T.2.1 k a = S.2.1 k a) (ol : ∀ k a, a < S.1.length → T.2.2.1 k a = S.2.2.1 k a) (or : ∀ k a, a < S.1.length → ¬ (k = kb ∧ a = d) → T.2.2.2.1 k a = S.2.2.2.1 k a) (oa : ∀ a, a < S.1.length → T.2.2.2.2.1 a = S.2.2.2.2.1 a) (ob : ∀ a, a < S.1.length → T.2.2.2.2.2.1 a = S.2.2.2.2.2.1 a) : LA S (hpI (hpQ T e' n (some y)) (kb + 1) d (nI (n + 1))) d e e' n y k28 kb := by
  refine ⟨re, ?_, ch, kk, rm, ?_, fun j hj => ?_, fun b hb hbe => ?_, fun k a ha hna => ?_, ol, or, oa, ob⟩
  · simp [hpI, up2]
  · simp [hpI, hpQ, up2]
  · show up2 T.2.2.2.2.2.2 e' n (some y) e' j = _
    rw [up2_at, if_neg (by omega)]; exact row j hj
  · show up2 T.2.2.2.2.2.2 e' n (some y) b = _
    rw [up2_row (fun c => by rcases ch with ⟨q, _⟩ | ⟨q, _⟩ <;> omega)]; exact oq b hb hbe
  · show up2 T.2.1 (kb + 1) d (nI (n + 1)) k a = _
    rw [up2_ne (fun c => hna ⟨Or.inl c.1, c.2⟩)]; exact oi k a ha hna
set_option maxHeartbeats 1000000 in
theorem h_add13 {S : hS} {d e n y : Nat} (hd : d < S.1.length) (h0 : S.2.2.2.1 1300 d = some e) (hk : e = am_M + 1 ∨ (hK S.1 e 28 ∧ 0 < hlq S.1 e)) (hq : hlq S.1 e ≤ 400) (hsz : S.2.1 1301 d = nI n) (hn : n ≤ hlq S.1 e) (hn2 : n ≤ 255) (hlen : S.1.length < am_M) : ∃ S' e', h_AL13_add2 d y S = some (1, S') ∧ LA S S' d e e' n y 28 1300 ∧ hlq S'.1 e' ≤ 400 ∧ S'.1.length ≤ S.1.length + 1 := by
  have hM : am_M = 16777216 := rfl
  have helt : e = am_M + 1 ∨ e < S.1.length := hk.imp id (fun q => q.1.lt)
  obtain ⟨T, hT⟩ : ∃ T, T = hpI S 1302 d (S.2.1 1302 d + 1) := ⟨_, rfl⟩
  have t1 : T.1 = S.1 := by rw [hT]; rfl
  have tI : ∀ k a, ¬ ((k = 1300 + 1 ∨ k = 1300 + 2) ∧ a = d) → T.2.1 k a = S.2.1 k a := fun k a hna => by
    rw [hT]
    exact up2_ne (f := S.2.1) (fun c => hna ⟨Or.inr c.1, c.2⟩)
  have tz : T.2.1 1301 d = nI n := by rw [hT, ← hsz]; simp [hpI, up2]
  have t2 : T.2.2 = S.2.2 := by rw [hT]; rfl
  have tr : T.2.2.2.1 1300 d = some e := by rw [t2]; exact h0
  have al : hs_al T = some S.1.length := by unfold hs_al; rw [t1]; exact if_pos hlen
  -- behind the growing, if any
  have fin : ∀ (U : hS) (e' : Nat), h_AL13_add d y e (nI n) T = (am_ix (nI n) (hlq U.1 e')).bind (fun j10 => some (hpI (hpQ U e' j10 (some y)) 1301 d (nI n + 1))) → U.2.2.2.1 (1300 + 0) d = some e' → ((e' = e ∧ e ≠ am_M + 1 ∧ U.1 = S.1) ∨ (e' = S.1.length ∧ ∃ N, U.1 = S.1 ++ [(28, N)])) → hK U.1 e' 28 → n + 1 ≤ hlq U.1 e' → hlq U.1 e' ≤ 400 → (∀ j, j < n → U.2.2.2.2.2.2 e' j = S.2.2.2.2.2.2 e j) → (∀ b, b < S.1.length → b ≠ e → U.2.2.2.2.2.2 b = S.2.2.2.2.2.2 b) → (∀ k a, a < S.1.length → ¬ ((k = 1300 + 1 ∨ k = 1300 + 2) ∧ a = d) → U.2.1 k a = S.2.1 k a) → (∀ k a, a < S.1.length → U.2.2.1 k a = S.2.2.1 k a) → (∀ k a, a < S.1.length → ¬ (k = 1300 ∧ a = d) → U.2.2.2.1 k a = S.2.2.2.1 k a) → (∀ a, a < S.1.length → U.2.2.2.2.1 a = S.2.2.2.2.1 a) → (∀ a, a < S.1.length → U.2.2.2.2.2.1 a = S.2.2.2.2.2.1 a) → ∃ S' e', h_AL13_add2 d y S = some (1, S') ∧ LA S S' d e e' n y 28 1300 ∧ hlq S'.1 e' ≤ 400 ∧ S'.1.length ≤ S.1.length + 1 := by
    intro U e' hU re ch kk rm rm2 row oq oi ol or oa ob
    refine ⟨_, e', ?_, LA.put hd re ch kk rm row oq oi ol or oa ob, rm2, ?_⟩
    · unfold h_AL13_add2
      rw [h0, Option.bind_some, hsz, ← hT, hU, ix_N (by omega) (by omega), Option.bind_some, Option.bind_some, nI_add1]
    · show U.1.length ≤ _
      rcases ch with ⟨_, _, c⟩ | ⟨_, N, c⟩ <;> rw [c]
      · omega
      · rw [List.length_append, List.length_singleton]; omega
  by_cases hf : n = hlq S.1 e
  · by_cases hz : n = 0
    · have he : e = am_M + 1 := by
        rcases hk with c | c
        · exact c
        · have := c.2; omega
      refine fin (hpR (hNew T 28 10) 1300 d (some S.1.length)) S.1.length ?_ ?_ (Or.inr ⟨rfl, 10, ?_⟩) ?_ ?_ ?_ (fun j hj => by omega) (fun b hb _ => ?_) (fun k a ha hna => ?_) (fun k a ha => ?_) (fun k a ha hna => ?_) (fun a ha => ?_) (fun a ha => ?_)
      · unfold h_AL13_add
        rw [t1, if_neg (fun q => q (by rw [← hf]; rfl))]
        unfold h_AL13_grow2 h_AL13_grow
        rw [tr, Option.bind_some, t1, ← hf, tz, hz, if_neg (by decide), if_pos he, al]
        rfl
      · simp [hpR, up2]
      · show T.1 ++ [(28, 10)] = _
        rw [t1]
      · exact ⟨10, by show (T.1 ++ [(28, 10)])[S.1.length]? = _; rw [t1]; exact get_snoc S.1 (28, 10)⟩
      · show n + 1 ≤ hlq (T.1 ++ [(28, 10)]) S.1.length
        rw [t1, hlq_ne (get_snoc S.1 (28, 10)) (by omega)]; omega
      · show hlq (T.1 ++ [(28, 10)]) S.1.length ≤ _
        rw [t1, hlq_ne (get_snoc S.1 (28, 10)) (by omega)]; omega
      · show nw2 T.2.2.2.2.2.2 T.1.length none b = _
        rw [nw2_ne (by rw [t1]; omega), t2]
      · show nw1 T.2.1 T.1.length 0 k a = _
        rw [nw1_ne (by rw [t1]; omega)]; exact tI k a hna
      · show nw1 T.2.2.1 T.1.length 0 k a = _
        rw [nw1_ne (by rw [t1]; omega), t2]
      · show up2 (nw1 T.2.2.2.1 T.1.length none) 1300 d (some S.1.length) k a = _
        rw [up2_ne hna, nw1_ne (by rw [t1]; omega), t2]
      · show nw2 T.2.2.2.2.1 T.1.length 0 a = _
        rw [nw2_ne (by rw [t1]; omega), t2]
      · show nw2 T.2.2.2.2.2.1 T.1.length 0 a = _
        rw [nw2_ne (by rw [t1]; omega), t2]
    · have he : e ≠ am_M + 1 := fun c => by
        rw [c, hlq_0] at hf; exact hz hf
      have hke : hK S.1 e 28 := (hk.resolve_left he).1
      have hln0 : hln S.1 e = n := by
        unfold hlq at hf
        rw [if_neg he] at hf; exact hf.symm
      have hel : e < S.1.length := hke.lt
      obtain ⟨N, hN⟩ : ∃ N, N = n + max 1 (n / 2) := ⟨_, rfl⟩
      have hN4 : N ≤ 400 ∧ n + 1 ≤ N := by
        rw [hN]
        omega
      have hgr : h_AL13_grow2 d T = some (S.1.length, hpR (hCpy (hNew T 28 N) e S.1.length n) 1300 d (some S.1.length)) := by
        unfold h_AL13_grow2 h_AL13_grow
        have hnl := nl_all ⟨n, by omega⟩ (show 0 < n by omega)
        have e1 : nI n + 1 - Int32.ofNat n = 1 := by
          rw [nI_add1]; exact nI_sub' (a := n + 1) (b := n) (by omega) |>.trans (by rw [show n + 1 - n = 1 by omega]; rfl)
        have e2 : (0 : Int32) < Int32.ofNat n := (nI_lt' (a := 0) (b := n) (by omega) (by omega)).mpr (by omega)
        rw [tr, Option.bind_some, t1, ← hf, tz, if_pos e2, e1]
        have hnl' : h_ArraysSupport_newLength (Int32.ofNat n) 1 (Int32.ofNat n >>> (1 &&& 31)) = some (nI N) := by rw [hN]; exact hnl
        rw [hnl', Option.bind_some]
        unfold h_copyOf
        rw [t1, hln0, if_neg (fun c => c.elim he (fun q => by omega)), hs_nl_n hN4.1 (by omega), Option.bind_some, al, Option.bind_some]
        have e3 : (hmin (nI N) n).toNatClampNeg = n := by
          unfold hmin
          rw [if_neg (fun c => by have := (nI_lt' (a := N) (b := n) (by omega) (by omega)).mp c; omega)]
          exact nI_nn (by omega)
        rw [e3]; rfl
      refine fin (hpR (hCpy (hNew T 28 N) e S.1.length n) 1300 d (some S.1.length)) S.1.length ?_ ?_ (Or.inr ⟨rfl, N, ?_⟩) ?_ ?_ ?_ (fun j hj => ?_) (fun b hb _ => ?_) (fun k a ha hna => ?_) (fun k a ha => ?_) (fun k a ha hna => ?_) (fun a ha => ?_) (fun a ha => ?_)
      · unfold h_AL13_add
        rw [t1, if_neg (fun q => q (by rw [← hf]; rfl)), hgr]
        rfl
      · simp [hpR, up2]
      · show T.1 ++ [(28, N)] = _
        rw [t1]
      · exact ⟨N, by show (T.1 ++ [(28, N)])[S.1.length]? = _; rw [t1]; exact get_snoc S.1 (28, N)⟩
      · show n + 1 ≤ hlq (T.1 ++ [(28, N)]) S.1.length
        rw [t1, hlq_ne (get_snoc S.1 (28, N)) (by omega)]; omega
      · show hlq (T.1 ++ [(28, N)]) S.1.length ≤ _
        rw [t1, hlq_ne (get_snoc S.1 (28, N)) (by omega)]; omega
      · show (if S.1.length = S.1.length then va_cpy (nw2 T.2.2.2.2.2.2 T.1.length none e) (nw2 T.2.2.2.2.2.2 T.1.length none S.1.length) 0 0 n else nw2 T.2.2.2.2.2.2 T.1.length none S.1.length) j = _
        rw [if_pos rfl, va_cpy_lt _ _ _ _ hj, nw2_ne (by rw [t1]; omega), t2]
      · show (if b = S.1.length then va_cpy (nw2 T.2.2.2.2.2.2 T.1.length none e) (nw2 T.2.2.2.2.2.2 T.1.length none S.1.length) 0 0 n else nw2 T.2.2.2.2.2.2 T.1.length none b) = _
        rw [if_neg (by omega), nw2_ne (by rw [t1]; omega), t2]
      · show nw1 T.2.1 T.1.length 0 k a = _
        rw [nw1_ne (by rw [t1]; omega)]; exact tI k a hna
      · show nw1 T.2.2.1 T.1.length 0 k a = _
        rw [nw1_ne (by rw [t1]; omega), t2]
      · show up2 (nw1 T.2.2.2.1 T.1.length none) 1300 d (some S.1.length) k a = _
        rw [up2_ne hna, nw1_ne (by rw [t1]; omega), t2]
      · show nw2 T.2.2.2.2.1 T.1.length 0 a = _
        rw [nw2_ne (by rw [t1]; omega), t2]
      · show nw2 T.2.2.2.2.2.1 T.1.length 0 a = _
        rw [nw2_ne (by rw [t1]; omega), t2]
  · have he : e ≠ am_M + 1 := fun c => by
      rw [c, hlq_0] at hf hn; omega
    have hke : hK S.1 e 28 := (hk.resolve_left he).1
    refine fin T e ?_ tr (Or.inl ⟨rfl, he, t1⟩) (by rw [t1]; exact hke) (by rw [t1]; omega) (by rw [t1]; exact hq) (fun j _ => by rw [t2]) (fun b _ _ => by rw [t2]) (fun k a _ hna => tI k a hna) (fun k a _ => by rw [t2]) (fun k a _ _ => by rw [t2]) (fun a _ => by rw [t2]) (fun a _ => by rw [t2])
    unfold h_AL13_add
    rw [t1, if_pos (show ¬ nI n = Int32.ofNat (hlq S.1 e) from fun q => hf (nI_inj (by omega) (by omega) q)), Option.bind_some]
    show (am_ix (nI n) (hlq T.1 e)).bind _ = _
    rw [t1]
/-! A room: looked up, or new. -/
theorem h_get13 {S : hS} {d e n j : Nat} {x : Nat} (h0 : S.2.2.2.1 1300 d = some e) (hsz : S.2.1 1301 d = nI n) (hn : n ≤ hlq S.1 e) (hq : hlq S.1 e ≤ 400) (hj : j < n) (hx : S.2.2.2.2.2.2 e j = some x) : h_AL13_get d (nI j) S = some (some x) := by
  unfold h_AL13_get h_Objects_checkIndex
  rw [hsz, if_neg (nI_neg1 (by omega)), if_pos ((nI_lt' (by omega) (by omega)).mpr hj), Option.bind_some]
  unfold h_AL13_elementData
  rw [h0, Option.bind_some, ix_N (by omega) (by omega), Option.bind_some, hx]; rfl
theorem h_findRoom_loop {S : hS} {z : Z} {g : hG} (h : HB S z g) {p t d e : Nat} {ts : List Nat} (ht : t < 256) (a1 : S.2.2.2.1 1300 d = some e) (a3 : hlq S.1 e ≤ 400) (a4 : S.2.1 1301 d = nI ts.length) (a5 : ts.length ≤ hlq S.1 e) (a7 : ∀ (j t : Nat), ts[j]? = some t → t < 256 ∧ ∃ x, S.2.2.2.2.2.2 e j = some x ∧ g.ad (16384 + (256 * p + t)) = some x) (a8 : ∀ t, t < 256 → t ∉ ts → g.ad (16384 + (256 * p + t)) = none) (hp : p < 256) : ∀ (k fu j : Nat), ts.length - j = k → k < fu → j ≤ ts.length → t ∉ ts.take j → hl_Bo_findRoom_13 fu (nI t) (some d) (nI j) S = some (g.ad (16384 + (256 * p + t))) := by
  intro k
  induction k with
  | zero =>
    intro fu j hk hf hj hn
    obtain ⟨fu, rfl⟩ : ∃ f, fu = f + 1 := ⟨fu - 1, by omega⟩
    rw [List.take_of_length_le (by omega)] at hn
    unfold hl_Bo_findRoom_13 h_AL13_size
    rw [Option.bind_some, Option.bind_some, a4, if_pos (nI_le0 (by omega) (by omega) (by omega)), a8 t ht hn]
  | succ k ih =>
    intro fu j hk hf hj hn
    obtain ⟨fu, rfl⟩ : ∃ f, fu = f + 1 := ⟨fu - 1, by omega⟩
    obtain ⟨s, hs⟩ := get_lt (ks := ts) (j := j) (by omega)
    obtain ⟨s1, x, s2, s3⟩ := a7 j s hs
    have hx := h.tab.pos _ x s3
    have htow : S.2.1 1000 x = nI s := by
      have := hx.tow (by omega)
      rw [this, show (16384 + (256 * p + s) - 16384) % 256 = s by omega]
    have hget := h_get13 a1 a4 a5 a3 (get_lt' hs) s2
    unfold hl_Bo_findRoom_13 h_AL13_size
    rw [Option.bind_some, Option.bind_some, a4, if_neg (nI_ngt (by omega) (by omega) (by omega)), hget, Option.bind_some, Option.bind_some, htow]
    by_cases hst : s = t
    · rw [if_neg (fun q => q (by rw [hst])), Option.bind_some, Option.bind_some, ← hst, s3]
    · rw [if_pos (fun q => hst (nI_inj (by omega) (by omega) q)), nI_add1]
      refine ih fu (j + 1) (by omega) (by omega) (by omega) (fun c => ?_)
      rw [take_snoc hs, List.mem_append, List.mem_singleton] at c
      exact c.elim hn (fun q => hst q.symm)
theorem h_findRoom {S : hS} {z : Z} {g : hG} (h : HB S z g) (hX : okX z) {p t : Nat} (hp : p < z.mem.length) (ht : t < 256) : h_Bo_findRoom (nI p) (nI t) S = some (g.ad (16384 + (256 * p + t))) := by
  have hm := hX.mem
  obtain ⟨c, hc, hM⟩ := h.p hp
  obtain ⟨e, ts, a1, a2, a3, a4, a5, a6, a7, a8⟩ := hM.rom
  unfold h_Bo_findRoom
  rw [ix_N (by omega) (by omega), Option.bind_some, hM.at, Option.bind_some, hM.rlr]
  exact h_findRoom_loop h ht a1 a3 a4 a5 a7 a8 (by omega) _ 100000 0 rfl (by omega) (by omega) (by simp)
theorem lev_r {z : Z} (k : Nat) : z.lev (16384 + k) = - z.paid k := by
  unfold Z.lev
  rw [if_neg (by omega), show 16384 + k - 16384 = k by omega]
set_option maxHeartbeats 2000000 in
/-- the room of p towards t, old or new -/
theorem h_room {S : hS} {z : Z} {g : hG} (h : HB S z g) (hX : okX z) {p t : Nat} (hp : p < z.mem.length) (ht : t < z.mem.length) (hlen : S.1.length + 2 < am_M) : ∃ y S' g', h_Bo_room (nI p) (nI t) S = some (y, S') ∧ GR S S' z g g' ∧ g'.ad (16384 + (256 * p + t)) = some y ∧ S'.1.length ≤ S.1.length + 2 := by
  have hm := hX.mem
  obtain ⟨c, hc, hM⟩ := h.p hp
  have hfix := h.fix
  have h60 : 60 ≤ S.1.length := by have := hfix.len; have h2 : hs_fix.length = 60 := rfl; omega
  have hfr := h_findRoom h hX hp (t := t) (by omega)
  cases had : g.ad (16384 + (256 * p + t)) with
  | some y =>
    refine ⟨y, S, g, ?_, GR.rf h, had, by omega⟩
    unfold h_Bo_room
    rw [hfr, Option.bind_some, had, if_neg (by simp), Option.bind_some]
    rfl
  | none =>
    obtain ⟨z1, z2⟩ := h.tab.rom0 (256 * p + t) (by omega) had
    obtain ⟨e, ts, a1, a2, a3, a4, a5, a6, a7, a8⟩ := hM.rom
    have hd := len_get hM.rlk
    have hb0 := len_get hM.k
    have htn : t ∉ ts := fun c => by
      obtain ⟨j, hj⟩ := List.mem_iff_getElem?.mp c
      obtain ⟨_, x, _, q⟩ := a7 j t hj
      rw [had] at q; cases q
    have htl : ts.length ≤ 255 := by
      have h1 : ((t :: ts)).Nodup := List.nodup_cons.mpr ⟨htn, a6⟩
      have h2 : (t :: ts).length ≤ (List.range 256).length := List.Nodup.length_le_of_subset h1 (fun s hs => List.mem_range.mpr (by
        rcases List.mem_cons.mp hs with q | q
        · omega
        · obtain ⟨j, hj⟩ := List.mem_iff_getElem?.mp q
          exact (a7 j s hj).1))
      rw [List.length_cons, List.length_range] at h2
      omega
    have helt : e = am_M + 1 ∨ e < S.1.length := a2.imp id (fun q => q.1.lt)
    -- the new cell
    obtain ⟨T, hT⟩ : ∃ T, T = hpI (hNew S 10 0) 1000 S.1.length (nI t) := ⟨_, rfl⟩
    have t1 : T.1 = S.1 ++ [(10, 0)] := by rw [hT]; rfl
    have hTl : T.1.length = S.1.length + 1 := by rw [t1, List.length_append, List.length_singleton]
    have tI : ∀ k a, a < S.1.length → T.2.1 k a = S.2.1 k a := fun k a ha => by
      rw [hT]
      show up2 (nw1 S.2.1 S.1.length 0) 1000 S.1.length (nI t) k a = _
      rw [up2_na (by omega), nw1_ne (by omega)]
    have tL : ∀ k a, a < S.1.length → T.2.2.1 k a = S.2.2.1 k a := fun k a ha => by rw [hT]; exact nw1_ne (f := S.2.2.1) (by omega)
    have tR : ∀ k a, a < S.1.length → T.2.2.2.1 k a = S.2.2.2.1 k a := fun k a ha => by rw [hT]; exact nw1_ne (f := S.2.2.2.1) (by omega)
    have tA : ∀ a, a < S.1.length → T.2.2.2.2.1 a = S.2.2.2.2.1 a := fun a ha => by rw [hT]; exact nw2_ne (f := S.2.2.2.2.1) (by omega)
    have tB : ∀ a, a < S.1.length → T.2.2.2.2.2.1 a = S.2.2.2.2.2.1 a := fun a ha => by rw [hT]; exact nw2_ne (f := S.2.2.2.2.2.1) (by omega)
    have tQ : ∀ a, a < S.1.length → T.2.2.2.2.2.2 a = S.2.2.2.2.2.2 a := fun a ha => by rw [hT]; exact nw2_ne (f := S.2.2.2.2.2.2) (by omega)
    have heq : hlq T.1 e = hlq S.1 e := by
      unfold hlq
      by_cases he : e = am_M + 1
      · rw [if_pos he, if_pos he]
      · rw [if_neg he, if_neg he, t1]
        exact (hE.snoc S.1 (10, 0)).ln (a2.resolve_left he).1
    obtain ⟨S', e', b1, b2, b3, b4⟩ := h_add13 (S := T) (d := g.pb p + 2) (e := e) (n := ts.length) (y := S.1.length) (by omega) ((tR _ _ hd).trans a1) (a2.imp id (fun q => ⟨by rw [t1]; exact q.1.up (hE.snoc _ _), by rw [heq]; exact q.2⟩)) (by rw [heq]; exact a3) ((tI _ _ hd).trans a4) (by rw [heq]; exact a5) htl (by omega)
    have he'1 : e' = e ∧ e < S.1.length ∨ e' = S.1.length + 1 := by
      rcases b2.ch with ⟨q1, q2, _⟩ | ⟨q1, _⟩
      · exact Or.inl ⟨q1, helt.resolve_left q2⟩
      · exact Or.inr (by rw [q1, hTl])
    have sE : hE T.1 S'.1 := by
      rcases b2.ch with ⟨_, _, q⟩ | ⟨_, N, q⟩
      · rw [q]; exact hE.rf
      · rw [q]; exact hE.snoc _ _
    have sE0 : hE S.1 S'.1 := (by rw [t1] at sE; exact (hE.snoc _ _).tr sE)
    have sI : ∀ k a, a < S.1.length → ¬ ((k = 1300 + 1 ∨ k = 1300 + 2) ∧ a = g.pb p + 2) → S'.2.1 k a = S.2.1 k a := fun k a ha hna => (b2.oi k a (by omega) hna).trans (tI k a ha)
    have sL : ∀ k a, a < S.1.length → S'.2.2.1 k a = S.2.2.1 k a := fun k a ha => (b2.ol k a (by omega)).trans (tL k a ha)
    have sR : ∀ k a, a < S.1.length → ¬ (k = 1300 ∧ a = g.pb p + 2) → S'.2.2.2.1 k a = S.2.2.2.1 k a := fun k a ha hna => (b2.or k a (by omega) hna).trans (tR k a ha)
    have sQ : ∀ a, a < S.1.length → a ≠ e → S'.2.2.2.2.2.2 a = S.2.2.2.2.2.2 a := fun a ha hne => (b2.oq a (by omega) hne).trans (tQ a ha)
    have hke : e < S.1.length → hK S.1 e 28 := fun c => (a2.resolve_left (fun q => by have hM : am_M = 16777216 := rfl; omega)).1
    have bf : BF S S' := by
      refine ⟨sE0, fun k a hk ha => sI k a ha (fun q => ?_), fun k a _ ha => sL k a ha, fun k a hk ha => sR k a ha (fun q => ?_), fun a ha => (b2.oa a (by omega)).trans (tA a ha), fun a ha => (b2.ob a (by omega)).trans (tB a ha), fun a ha hb => sQ a ha (fun q => ?_)⟩
      · rcases q.1 with c | c <;> (rw [c] at hk; exact hk (by decide))
      · rw [q.1] at hk; exact hk (by decide)
      · subst q; exact hb (Or.inr (Or.inr (Or.inl (hke ha))))
    have ne28 : ∀ {b k n : Nat}, S.1[b]? = some (k, n) → k ≠ 28 → b ≠ e := fun {b k n} hb hk q => by
      have := len_get hb
      subst q
      exact hk ((hke this).un hb)
    refine ⟨S.1.length, S', g.set (16384 + (256 * p + t)) S.1.length, ?_, ⟨bf, fun k a hk ha => sI k a ha (fun q => hk (by rcases q.1 with c | c <;> rw [c] <;> decide)), sL, fun k a hk ha => sR k a ha (fun q => hk q.1), ⟨sQ 11 (by omega) (ne28 (fix_at hfix (b := 11) (p := (24, 256)) rfl) (by decide)), sQ 12 (by omega) (ne28 (fix_at hfix (b := 12) (p := (25, 64)) rfl) (by decide))⟩, fun p' hp' a' ha' => ?_, fun p' hp' => ?_, fun p' q' e2 hp' hq' r1 r2 hne => ?_, fun P y hP => ?_, fun P y hP => ?_, fun P Q y h1 h2 h3 h4 => ?_, rfl⟩, ?_, by omega⟩
    · unfold h_Bo_room
      have al : hs_al S = some S.1.length := if_pos (by omega)
      rw [hfr, Option.bind_some, had, if_pos rfl, al, Option.bind_some]
      unfold h_Po_init
      rw [Option.bind_some, ← hT, ix_N (by omega) (by omega), Option.bind_some, tQ 11 (by omega), hM.at, Option.bind_some, tR _ _ hb0, hM.rlr, Option.bind_some, b1]
      rfl
    · obtain ⟨c', _, hM'⟩ := h.p hp'
      rw [sQ _ (len_get hM'.ack) (ne28 hM'.ack (by decide)), set_ad, if_neg (by omega)]
      exact hM'.acc a' ha'
    · obtain ⟨c', _, hM'⟩ := h.p hp'
      have x0 := len_get hM'.rlk
      by_cases hpp : p' = p
      · subst hpp
        refine ⟨e', ts ++ [t], b2.re, Or.inr ⟨b2.kk, by have := b2.rm; omega⟩, b3, by rw [List.length_append, List.length_singleton]; exact b2.sz, by rw [List.length_append, List.length_singleton]; exact b2.rm, ?_, fun j s hj => ?_, fun s hs hn => ?_⟩
        · rw [List.nodup_append]
          refine ⟨a6, by simp, fun x hx y hy => ?_⟩
          rw [List.mem_singleton] at hy
          subst hy
          exact fun q => htn (by rw [← q]; exact hx)
        · rw [List.getElem?_append] at hj
          by_cases hjl : j < ts.length
          · rw [if_pos hjl] at hj
            obtain ⟨s1, x, s2, s3⟩ := a7 j s hj
            refine ⟨s1, x, ?_, ?_⟩
            · rw [b2.row j hjl]
              rcases helt with q | q
              · exfalso
                rw [q, hlq_0] at a5; omega
              · rw [tQ e q]; exact s2
            · rw [set_ad, if_neg (fun q => htn (by
                have : s = t := by omega
                rw [← this]; exact List.mem_of_getElem? hj))]
              exact s3
          · rw [if_neg hjl] at hj
            have := get_lt' hj
            rw [List.length_singleton] at this
            have hj0 : j - ts.length = 0 := by omega
            rw [hj0] at hj
            cases hj
            have hj1 : j = ts.length := by omega
            subst hj1
            exact ⟨by omega, S.1.length, b2.top, by rw [set_ad, if_pos rfl]⟩
        · rw [List.mem_append, List.mem_singleton] at hn
          rw [set_ad, if_neg (fun q => hn (Or.inr (by omega)))]
          exact a8 s hs (fun q => hn (Or.inl q))
      · have hpn : g.pb p' + 2 ≠ g.pb p + 2 := fun q => hpp (h.pin p' p hp' hp (by omega))
        refine hM'.rom.f sE0 (sR _ _ x0 (fun q => hpn q.2)) (sI _ _ x0 (fun q => hpn q.2)) (fun e2 r1 r2 => sQ e2 r2.lt (fun q => ?_)) (fun s hs => by rw [set_ad, if_neg (by omega)])
        rw [q] at r1
        exact hpp (h.rin p' p e hp' hp r1 a1 (fun w => by
          rw [q, w] at r2
          have := r2.lt
          have hM : am_M = 16777216 := rfl
          omega))
    · obtain ⟨c1, _, hM1⟩ := h.p hp'
      obtain ⟨c2, _, hM2⟩ := h.p hq'
      -- the list of p has e' now
      by_cases g1 : p' = p <;> by_cases g2 : q' = p
      · omega
      · subst g1
        rw [show S'.2.2.2.1 1300 (g.pb p' + 2) = some e' from b2.re] at r1
        cases r1
        rw [sR _ _ (len_get hM2.rlk) (fun w => g2 (h.pin q' p' hq' hp' (by omega)))] at r2
        rcases he'1 with ⟨w1, w2⟩ | w1
        · rw [w1] at r2 hne
          exact (h.rin q' p' e hq' hp' r2 a1 hne).symm
        · exfalso
          obtain ⟨e3, ts3, c1, c2, _⟩ := hM2.rom
          rw [c1] at r2
          cases r2
          rcases c2 with w | w
          · exact hne w
          · have := w.1.lt; omega
      · subst g2
        rw [show S'.2.2.2.1 1300 (g.pb q' + 2) = some e' from b2.re] at r2
        cases r2
        rw [sR _ _ (len_get hM1.rlk) (fun w => g1 (h.pin p' q' hp' hq' (by omega)))] at r1
        rcases he'1 with ⟨w1, w2⟩ | w1
        · rw [w1] at r1 hne
          exact h.rin p' q' e hp' hq' r1 a1 hne
        · exfalso
          obtain ⟨e3, ts3, c1, c2, _⟩ := hM1.rom
          rw [c1] at r1
          cases r1
          rcases c2 with w | w
          · exact hne w
          · have := w.1.lt; omega
      · rw [sR _ _ (len_get hM1.rlk) (fun w => g1 (h.pin p' p hp' hp (by omega)))] at r1
        rw [sR _ _ (len_get hM2.rlk) (fun w => g2 (h.pin q' p hq' hp (by omega)))] at r2
        exact h.rin p' q' e2 hp' hq' r1 r2 hne
    · rw [set_ad]
      by_cases hPe : P = 16384 + (256 * p + t)
      · rw [hPe, had] at hP; cases hP
      · rw [if_neg hPe]; exact hP
    · rw [set_ad] at hP
      by_cases hPe : P = 16384 + (256 * p + t)
      · rw [if_pos hPe] at hP; cases hP
        right
        rw [hPe]
        have yI : ∀ k, S'.2.1 k S.1.length = T.2.1 k S.1.length := fun k => b2.oi k _ (by omega) (fun q => by omega)
        have yL : ∀ k, S'.2.2.1 k S.1.length = T.2.2.1 k S.1.length := fun k => b2.ol k _ (by omega)
        have fl : z.fld (16384 + (256 * p + t)) = false := by
          rw [fld_room, z2]; rfl
        refine ⟨had, Or.inr ⟨by omega, by omega, by omega, by omega⟩, ⟨?_, ?_, ?_, fun c => ?_, fun c => by omega, fun _ => ?_⟩, Nat.le_refl _, ?_⟩
        · exact sE.get (by rw [t1]; exact get_snoc S.1 (10, 0))
        · rw [yL, hT, lev_r, z1]; exact nw1_eq
        · rw [yI, fl, hT]
          show up2 (nw1 S.2.1 S.1.length 0) 1000 S.1.length (nI t) 1002 S.1.length = _
          rw [up2_ne (by omega), nw1_eq]; rfl
        · rw [fl] at c
          exact c.elim (fun w => by omega) (fun w => by cases w)
        · rw [yI, hT, show (16384 + (256 * p + t) - 16384) % 256 = t by omega]
          simp [hpI, up2]
        · rw [yI, hT]
          show up2 (nw1 S.2.1 S.1.length 0) 1000 S.1.length (nI t) 1008 S.1.length = _
          rw [up2_ne (by omega), nw1_eq]
      · rw [if_neg hPe] at hP
        exact Or.inl hP
    · rw [set_ad] at h1 h2
      by_cases g1 : P = 16384 + (256 * p + t) <;> by_cases g2 : Q = 16384 + (256 * p + t)
      · omega
      · rw [if_neg g2, h4] at h2; cases h2
      · rw [if_neg g1, h3] at h1; cases h1
      · rw [if_neg g1, h3] at h1; cases h1
    · rw [set_ad, if_pos rfl]
